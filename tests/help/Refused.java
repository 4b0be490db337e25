/** The refusals that many calls share, each for any call that asks for an argument or a literal. */
final class Refused {
    /** Arguments that there would be, if there were not too many. */
    private static final int[] OF_TOO_MANY = {0, 1, 13, 14, 23, 24};
    private static final Due.Maker[] MORE_THAN_24 = {Made::tooMany, Refused::tooManyAfterAnswers};
    private static final Due.Maker[] MORE_THAN_14 = {
        Made::fifteen, Made::full, Made::tooMany, Refused::fifteenAfterAnswers,
    };

    private Refused() {
    }

    private static RuleArguments tooManyAfterAnswers() {
        RuleArguments x = Made.tooMany();
        x.turn(11, false);
        Told.asked(x);
        x.turn(11, true);
        return x;
    }

    private static RuleArguments fifteenAfterAnswers() {
        RuleArguments x = Told.asked(Made.fourteen());
        x.addRule(1, 2, 0, 0, 5);
        return x;
    }

    static void ifMoreThan24(Due.CallWith question) {
        for (Due.Maker state : MORE_THAN_24) {
            Due.refusedForEach("too many, argument", Due.STATE, state, OF_TOO_MANY, question);
        }
    }

    static void ifNoArgument(Due.CallWith question) {
        Due.Maker[] states = {
            Made::empty, Made::some, Made::fourteen, Made::fifteen, Made::full,
        };
        for (Due.Maker state : states) {
            int count = state.make().arguments();
            Due.refusedForEach("of " + count + ", argument", Due.INDEX, state,
                    Made.noArguments(count), question);
        }
    }

    static void ifMoreThan24AndNoArgument(Due.CallWith question) {
        for (Due.Maker state : MORE_THAN_24) {
            Due.refusedForEach("too many, argument", Due.STATE, state, Made.noArguments(25),
                    question);
        }
    }

    static void ifNoLiteral(Due.CallWith question) {
        Due.Maker[] states = {Made::empty, Made::some, Made::fourteen};
        for (Due.Maker state : states) {
            Due.refusedForEach("literal", Due.ARGUMENT, state, Made.NO_LITERALS, question);
        }
    }

    static void literalIfMoreThan24(Due.CallWith question) {
        for (Due.Maker state : MORE_THAN_24) {
            Made.forEachLiteral(literal -> Due.refused("literal " + literal, Due.STATE, state,
                    x -> question.on(x, literal)));
        }
    }

    static void noLiteralAndMoreThan24(Due.CallWith question) {
        for (Due.Maker state : MORE_THAN_24) {
            Due.refusedForEach("literal", Due.ARGUMENT, state, Made.NO_LITERALS, question);
        }
    }

    static void ifMoreThan14(Due.Call question) {
        for (Due.Maker state : MORE_THAN_14) {
            Due.refused(state.make().arguments() + " arguments", Due.STATE, state, question);
        }
    }

    static void literalIfMoreThan14(Due.CallWith question) {
        Made.forEachLiteral(literal -> ifMoreThan14(x -> question.on(x, literal)));
    }

    static void noLiteralAndMoreThan14(Due.CallWith question) {
        for (Due.Maker state : MORE_THAN_14) {
            Due.refusedForEach("literal", Due.ARGUMENT, state, Made.NO_LITERALS, question);
        }
    }

    // ---- the sentences of promises that only name an argument or a literal

    static void sentencesOfArgument(Due.CallWith question) {
        Due.sentence("Throws `IllegalStateException` if there are too many arguments",
                () -> ifMoreThan24(question));
        Due.sentence("Throws `IndexOutOfBoundsException` if there is no such argument",
                () -> ifNoArgument(question));
        Due.sentence("of several exceptions it is the first one of the throws clause",
                () -> ifMoreThan24AndNoArgument(question));
    }

    static void sentencesOfLiteral(Due.CallWith question) {
        Due.sentence("Throws `IllegalArgumentException` if literal is out of range",
                () -> ifNoLiteral(question));
        Due.sentence("Throws `IllegalStateException` if there are too many arguments",
                () -> literalIfMoreThan24(question));
        Due.sentence("of several exceptions it is the first one of the throws clause",
                () -> noLiteralAndMoreThan24(question));
    }
}
