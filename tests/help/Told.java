/** What an object tells, as texts; none of them takes more than some 300 calls of it. */
final class Told {
    private Told() {
    }

    /** What an answer for each argument is, from argument 0 on. */
    interface OfArgument {
        int of(int argument);
    }

    static String ofEach(RuleArguments x, OfArgument question) {
        StringBuilder text = new StringBuilder();
        int count = x.arguments();
        for (int i = 0; i < count; i++) {
            text.append(i == 0 ? "" : " ").append(question.of(i));
        }
        return text.toString();
    }

    static String conclusions(RuleArguments x) {
        return ofEach(x, x::conclusion);
    }

    static String makers(RuleArguments x) {
        return ofEach(x, x::madeBy);
    }

    static String depths(RuleArguments x) {
        return ofEach(x, x::depth);
    }

    static String labels(RuleArguments x) {
        return ofEach(x, x::label);
    }

    static String rounds(RuleArguments x) {
        return ofEach(x, x::round);
    }

    static String reasonsAgainst(RuleArguments x) {
        return ofEach(x, x::reasonAgainst);
    }

    /** The parts of an argument, as many as it has. */
    static String parts(RuleArguments x, int argument) {
        StringBuilder text = new StringBuilder();
        for (int place = 0; place <= 3; place++) {
            try {
                int part = x.part(argument, place);
                text.append(place == 0 ? "" : " ").append(part);
            } catch (IndexOutOfBoundsException e) {
                return text.toString();
            }
        }
        return text.append(" and more").toString();
    }

    /** All arguments as "conclusion/rule/depth(parts)". */
    static String list(RuleArguments x) {
        return listFrom(x, 0);
    }

    static String listFrom(RuleArguments x, int first) {
        StringBuilder text = new StringBuilder();
        int count = x.arguments();
        for (int i = first; i < count; i++) {
            text.append(i == first ? "" : " ").append(x.conclusion(i)).append('/');
            text.append(x.madeBy(i)).append('/').append(x.depth(i));
            text.append('(').append(parts(x, i)).append(')');
        }
        return text.toString();
    }

    /** The arguments that attack one. */
    static String attackersOf(RuleArguments x, int argument) {
        StringBuilder text = new StringBuilder();
        int count = x.arguments();
        for (int i = 0; i < count; i++) {
            if (x.attacks(i, argument)) {
                text.append(text.length() == 0 ? "" : " ").append(i);
            }
        }
        return text.toString();
    }

    /** The preferred sets, as in "0 1, 0 2", if both ways find as many. */
    static String sets(RuleArguments x) {
        int count = x.preferred();
        if (x.preferredByAllSets() != count) {
            return count + " or " + x.preferredByAllSets() + " sets";
        }
        StringBuilder text = new StringBuilder();
        for (int set = 0; set < count; set++) {
            text.append(set == 0 ? "" : ", ").append(set(x, set));
        }
        return text.toString();
    }

    private static String set(RuleArguments x, int set) {
        StringBuilder text = new StringBuilder();
        int count = x.arguments();
        for (int i = 0; i < count; i++) {
            if (x.isInSet(set, i)) {
                text.append(text.length() == 0 ? "" : " ").append(i);
            }
        }
        return text.length() == 0 ? "none" : text.toString();
    }

    /** Asks an object for something of each kind, so that it has worked all out. */
    static RuleArguments asked(RuleArguments x) {
        int count = x.arguments();
        if (count > 0) {
            x.label(0);
        }
        if (count >= 0 && count <= 14) {
            x.preferred();
            x.preferredByAllSets();
        }
        return x;
    }

    /**
     * All that can be told, with new objects for parts of it, since no object is for more than 512
     * calls; the calls that change something come last.
     */
    static String all(Due.Maker maker) {
        RuleArguments x = maker.make();
        StringBuilder text = new StringBuilder();
        text.append(x.facts()).append(" facts, ").append(x.rules()).append(" rules, ");
        int count = x.arguments();
        text.append(count).append(" arguments: ").append(list(x)).append(';');
        for (int i = 0; i < count; i++) {
            text.append(attackersOf(maker.make(), i)).append('|');
        }
        if (count >= 0) {
            RuleArguments y = maker.make();
            text.append(labels(y)).append(';').append(rounds(y)).append(';');
            text.append(reasonsAgainst(y)).append(';');
            Made.forEachLiteral(literal ->
                    text.append(y.holds(literal)).append('/').append(y.reasonFor(literal)).append(' '));
        }
        if (count >= 0 && count <= 14) {
            RuleArguments y = maker.make();
            text.append(sets(y)).append(';');
            Made.forEachLiteral(literal -> text.append(y.setsFor(literal)).append(' '));
        }
        return text.append(settings(maker.make())).toString();
    }

    private static String settings(RuleArguments x) {
        StringBuilder text = new StringBuilder();
        for (int rule = 0; rule < x.rules(); rule++) {
            text.append(x.setPriority(rule, 0)).append('/').append(x.setException(rule, 0));
            text.append('/').append(x.turn(rule, false)).append(' ');
        }
        Made.forEachLiteral(literal -> text.append(x.takeBack(literal) ? literal : 0).append(' '));
        return text.toString();
    }
}
