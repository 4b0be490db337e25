/** Sentences of the document, the answers that are due by them, and the calls that they refuse. */
final class Due {
    static final String ARGUMENT = "IllegalArgumentException";
    static final String STATE = "IllegalStateException";
    static final String INDEX = "IndexOutOfBoundsException";

    /** A call of the face; a boolean counts 1 or 0. */
    interface Call {
        int on(RuleArguments x);
    }

    /** Makes the same object each time. */
    interface Maker {
        RuleArguments make();
    }

    private static int wrong = 0;
    private static int sentences = 0;
    private static String promise = "";
    private static String sentence = "";

    private Due() {
    }

    static void promise(String name) {
        promise = name;
    }

    /** Runs the test of a sentence; one that goes wrong does not keep the others from running. */
    static void sentence(String words, Runnable test) {
        sentence = words;
        sentences++;
        try {
            test.run();
        } catch (RuntimeException e) {
            tell("its test was cut short by " + e);
        }
    }

    static void same(String what, String got, String want) {
        if (!got.equals(want)) {
            tell(what + " is [" + got + "], due is [" + want + "]");
        }
    }

    static void same(String what, int got, int want) {
        same(what, Integer.toString(got), Integer.toString(want));
    }

    static void same(String what, boolean got, boolean want) {
        same(what, Boolean.toString(got), Boolean.toString(want));
    }

    /** The call throws, and leaves the object as it was, whether it has been asked before or not. */
    static void refused(String what, String want, Maker maker, Call call) {
        same(what, outcome(call, maker.make()), want);
        String before = Told.all(maker);
        same("what is told after " + what, Told.all(() -> after(call, maker.make())), before);
        same("what is told after " + what + ", asked before too",
                Told.all(() -> after(call, Told.asked(maker.make()))), before);
    }

    /** A call refused for each of some numbers. */
    interface CallWith {
        int on(RuleArguments x, int number);
    }

    static void refusedForEach(
            String what, String want, Maker maker, int[] numbers, CallWith call) {
        for (int number : numbers) {
            refused(what + " " + number, want, maker, x -> call.on(x, number));
        }
    }

    private static RuleArguments after(Call call, RuleArguments x) {
        outcome(call, x);
        return x;
    }

    /** The answer, or the name of what the call throws. */
    static String outcome(Call call, RuleArguments x) {
        try {
            return "the answer " + call.on(x);
        } catch (RuntimeException e) {
            return e.getClass().getSimpleName();
        }
    }

    static int bit(boolean answer) {
        return answer ? 1 : 0;
    }

    private static void tell(String fault) {
        wrong++;
        System.out.println(promise + ", \"" + sentence + "\": " + fault);
    }

    static void finish(String name) {
        System.out.println(name + ": " + sentences + " sentences, " + wrong + " faults");
        if (wrong != 0) {
            System.exit(1);
        }
    }
}
