/** Objects for the tests, written as lines, and numbers that a call has to refuse. */
final class Made {
    /** Among them numbers that are literals when they are cut to a byte or a short. */
    static final int[] TOO_SMALL_OR_LARGE_LITERALS = {
        11, -11, 12, -12, 21, -21, 257, 255, 65537, 65535,
        Integer.MAX_VALUE, -Integer.MAX_VALUE, Integer.MIN_VALUE,
    };
    static final int[] NO_LITERALS = {
        0, 11, -11, 12, -12, 21, -21, 257, 255, 65537, 65535,
        Integer.MAX_VALUE, -Integer.MAX_VALUE, Integer.MIN_VALUE,
    };
    static final int[] NO_PRIORITIES = {
        -1, 10, 11, 256, 65536, Integer.MAX_VALUE, Integer.MIN_VALUE,
    };
    /** Every state that a refused call may meet: nothing, some, all that fits, and too much. */
    static final Due.Maker[] STATES = {
        Made::empty, Made::some, Made::fourteen, Made::fifteen, Made::full, Made::tooMany,
    };

    private Made() {
    }

    /**
     * An object of lines: "-3" is a fact, "off 4 <- 1 -2 :9 unless 5" a rule with the body 1, -2,
     * the priority 9 and the exception 5 that is off.
     */
    static RuleArguments of(String... lines) {
        RuleArguments x = new RuleArguments();
        add(x, lines);
        return x;
    }

    static void add(RuleArguments x, String... lines) {
        for (String line : lines) {
            if (line.contains("<-")) {
                addRule(x, line.split("\\s+"));
            } else {
                x.addFact(Integer.parseInt(line));
            }
        }
    }

    private static void addRule(RuleArguments x, String[] words) {
        boolean off = words[0].equals("off");
        int at = off ? 1 : 0;
        int head = Integer.parseInt(words[at]);
        at += 2;
        int[] body = new int[3];
        int length = 0;
        while (!words[at].startsWith(":")) {
            body[length] = Integer.parseInt(words[at]);
            length++;
            at++;
        }
        int priority = Integer.parseInt(words[at].substring(1));
        int rule = x.addRule(head, body[0], body[1], body[2], priority);
        if (words.length > at + 1) {
            x.setException(rule, Integer.parseInt(words[at + 2]));
        }
        if (off) {
            x.turn(rule, false);
        }
    }

    static RuleArguments empty() {
        return new RuleArguments();
    }

    /** Eight arguments: some in, some out, some undecided; two facts, seven rules, one is off. */
    static RuleArguments some() {
        return of("2", "-7", "1 <- 2 :9", "3 <- 1 -7 :3", "-3 <- 2 :6", "off 4 <- 3 :2",
                "5 <- :4 unless -5", "-5 <- :4", "6 <- 5 :0 unless 2");
    }

    /** Fourteen arguments with sixteen preferred sets. */
    static RuleArguments fourteen() {
        return of("1", "2", "3", "-4", "-5", "6", "7 <- :5", "-7 <- :5", "8 <- :5", "-8 <- :5",
                "9 <- :5", "-9 <- :5", "10 <- :5", "-10 <- :5");
    }

    static RuleArguments fifteen() {
        RuleArguments x = fourteen();
        x.addRule(1, 2, 0, 0, 5);
        return x;
    }

    private static final String[] FULL = {
        "1", "2", "3", "4", "5", "-6", "-7", "-8", "-9", "-10",
        "1 <- 2 :5", "-3 <- 1 :9", "3 <- 1 :9 unless 2", "6 <- 5 :0", "6 <- 4 :1", "7 <- -8 :2",
        "-2 <- -7 :3 unless -2", "8 <- 2 -10 :4", "9 <- 2 4 5 :5", "10 <- :6", "-4 <- :7 unless 6",
    };

    /** Ten facts, twelve rules, 24 arguments. */
    static RuleArguments full() {
        RuleArguments x = of(FULL);
        x.addRule(-5, 2, 0, 0, 8);
        return x;
    }

    /** Ten facts, twelve rules, 25 arguments. */
    static RuleArguments tooMany() {
        RuleArguments x = of(FULL);
        x.addRule(-5, 1, 0, 0, 8);
        return x;
    }

    /** The numbers around the last argument, and some that a shift or a product cuts to a low one. */
    static int[] noArguments(int count) {
        return new int[] {
            -1, count, count + 1, 24, 32, 33, 64, 256, 65536, 1431655766,
            Integer.MAX_VALUE, Integer.MIN_VALUE,
        };
    }

    static int[] noRules(int count) {
        return new int[] {-1, count, 12, 13, 256, 65536, Integer.MAX_VALUE, Integer.MIN_VALUE};
    }

    /** Calls a test for each literal. */
    interface OfLiteral {
        void with(int literal);
    }

    static void forEachLiteral(OfLiteral test) {
        for (int literal = -10; literal <= 10; literal++) {
            if (literal != 0) {
                test.with(literal);
            }
        }
    }
}
