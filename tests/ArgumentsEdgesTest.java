/** Promises 10 to 15: the sentences that name an edge, each with a test. */
public final class ArgumentsEdgesTest {
    public static void main(String[] args) {
        Due.promise("Promise 10");
        Due.sentence("Returns how many arguments there are", ArgumentsEdgesTest::howMany);
        Due.sentence("-1 if there are too many", ArgumentsEdgesTest::tooMany);

        Due.promise("Promise 11");
        Due.sentence("Returns the conclusion of an argument.", ArgumentsEdgesTest::conclusions);
        Refused.sentencesOfArgument(RuleArguments::conclusion);

        Due.promise("Promise 12");
        Due.sentence("Returns the rule that makes an argument", ArgumentsEdgesTest::makers);
        Due.sentence("-1 if it is a fact", ArgumentsEdgesTest::madeByNone);
        Refused.sentencesOfArgument(RuleArguments::madeBy);

        Due.promise("Promise 13");
        Due.sentence("`place`: 0 for the first one", ArgumentsEdgesTest::places);
        Due.sentence("Throws `IllegalStateException` if there are too many arguments",
                () -> Refused.ifMoreThan24((x, argument) -> x.part(argument, 0)));
        Due.sentence("Throws `IndexOutOfBoundsException` if there is no such argument",
                () -> Refused.ifNoArgument((x, argument) -> x.part(argument, 0)));
        Due.sentence("or it has no such part", ArgumentsEdgesTest::noSuchPart);
        Due.sentence("of several exceptions it is the first one of the throws clause",
                ArgumentsEdgesTest::tooManyAndNoPart);

        Due.promise("Promise 14");
        Due.sentence("Returns the depth of an argument.", ArgumentsEdgesTest::depths);
        Refused.sentencesOfArgument(RuleArguments::depth);

        Due.promise("Promise 15");
        Due.sentence("Tells whether an argument attacks another one, or itself.",
                ArgumentsEdgesTest::attacks);
        Due.sentence("Throws `IllegalStateException` if there are too many arguments",
                ArgumentsEdgesTest::attacksOfTooMany);
        Due.sentence("Throws `IndexOutOfBoundsException` if there is no argument attacker",
                () -> Refused.ifNoArgument((x, attacker) -> Due.bit(x.attacks(attacker, 0))));
        Due.sentence("or no argument other",
                () -> Refused.ifNoArgument((x, other) -> Due.bit(x.attacks(0, other))));
        Due.sentence("of several exceptions it is the first one of the throws clause",
                ArgumentsEdgesTest::tooManyAndNoAttacker);

        Due.finish("arguments");
    }

    private static void howMany() {
        RuleArguments x = new RuleArguments();
        Due.same("none", x.arguments(), 0);
        x.addFact(-10);
        Due.same("a fact", x.arguments(), 1);
        x.addRule(1, -10, 0, 0, 5);
        Due.same("a rule", x.arguments(), 2);
        x.addRule(1, 10, 0, 0, 5);
        Due.same("a rule that makes none", x.arguments(), 2);
        x.addRule(1, -10, 0, 0, 5);
        Due.same("another rule of the same words", x.arguments(), 3);
        Due.same("fourteen", Made.fourteen().arguments(), 14);
        Due.same("fifteen", Made.fifteen().arguments(), 15);
        Due.same("the most", Made.full().arguments(), 24);
    }

    private static void tooMany() {
        Due.same("one more than the most", Made.tooMany().arguments(), -1);
        RuleArguments x = Made.full();
        Due.same("before", x.arguments(), 24);
        x.takeBack(2);
        x.addFact(-2);
        Due.same("with another fact", x.arguments(), 18);
        x.takeBack(-2);
        x.addFact(2);
        Due.same("as before", x.arguments(), 24);
        RuleArguments y = Made.of("1", "2", "3", "4", "5", "6", "7", "8", "9", "10", "1 <- :1",
                "1 <- :1", "1 <- :1", "2 <- 1 :1", "3 <- 1 :1", "4 <- 1 :1");
        Due.same("ten facts, six rules, 25", y.arguments(), -1);
        y.turn(0, false);
        Due.same("one rule less", y.arguments(), 21);
        y.turn(0, true);
        y.takeBack(10);
        Due.same("one fact less", y.arguments(), 24);
    }

    private static void conclusions() {
        Due.same("the first and last literals", Told.conclusions(Made.of("-10", "10 <- :1")),
                "-10 10");
        Due.same("of 24", Told.conclusions(Made.full()),
                "-10 -9 -8 -7 -6 1 2 3 4 5 1 -3 3 6 6 7 -2 8 9 10 -4 -5 -3 3");
    }

    private static void makers() {
        RuleArguments x = new RuleArguments();
        for (int number = 0; number < 12; number++) {
            x.addRule(1, 0, 0, 0, 5);
        }
        Due.same("the first to the last", Told.makers(x), "0 1 2 3 4 5 6 7 8 9 10 11");
        Due.same("of 24", Told.makers(Made.full()),
                "-1 -1 -1 -1 -1 -1 -1 -1 -1 -1 0 1 2 3 4 5 6 7 8 9 10 11 1 2");
    }

    private static void madeByNone() {
        Due.same("a fact", Told.makers(Made.of("1", "1 <- :1")), "-1 0");
        Due.same("ten facts", Told.makers(Made.of("1", "2", "3", "4", "5", "6", "7", "8", "9",
                "10")), "-1 -1 -1 -1 -1 -1 -1 -1 -1 -1");
    }

    private static void places() {
        RuleArguments x = Made.of("1", "2", "3", "4 <- 3 1 2 :1", "5 <- 2 4 :1", "6 <- 5 :1");
        Due.same("first of three", x.part(3, 0), 2);
        Due.same("second of three, the argument 0", x.part(3, 1), 0);
        Due.same("third of three", x.part(3, 2), 1);
        Due.same("first of two", x.part(4, 0), 1);
        Due.same("second of two", x.part(4, 1), 3);
        Due.same("the only one", x.part(5, 0), 4);
        Due.same("of the last one of 24", Made.full().part(23, 0), 10);
    }

    private static void noSuchPart() {
        int[] noPlaces = {
            -1, -2, -3, 3, 4, 256, 65536, 1431655766, Integer.MAX_VALUE, Integer.MIN_VALUE,
        };
        for (int i = 0; i < 6; i++) {
            int argument = i;
            Due.refusedForEach("argument " + i + ", place", Due.INDEX,
                    ArgumentsEdgesTest::noneToThreeParts, noPlaces,
                    (x, place) -> x.part(argument, place));
        }
        int[] counts = {0, 0, 0, 1, 2, 3};
        for (int i = 0; i < 6; i++) {
            for (int place = counts[i]; place <= 3; place++) {
                int argument = i;
                int behind = place;
                Due.refused("argument " + i + ", place " + place, Due.INDEX,
                        ArgumentsEdgesTest::noneToThreeParts, x -> x.part(argument, behind));
            }
        }
        Refused.ifNoArgument((x, argument) -> x.part(argument, -1));
        Refused.ifNoArgument((x, argument) -> x.part(argument, 3));
    }

    /** Two facts, and arguments of none to three parts. */
    private static RuleArguments noneToThreeParts() {
        return Made.of("1", "2", "3 <- :1", "4 <- 1 :1", "5 <- 1 2 :1", "6 <- 1 2 3 :1");
    }

    private static void tooManyAndNoPart() {
        for (int place : new int[] {-1, 0, 3, Integer.MAX_VALUE, Integer.MIN_VALUE}) {
            Refused.ifMoreThan24((x, argument) -> x.part(argument, place));
            Refused.ifMoreThan24AndNoArgument((x, argument) -> x.part(argument, place));
        }
    }

    private static void depths() {
        Due.same("a fact", Made.of("-10").depth(0), 0);
        Due.same("a rule", Made.of("-10 <- :1").depth(0), 1);
        Due.same("of 24", Told.depths(Made.full()),
                "0 0 0 0 0 0 0 0 0 0 1 1 1 1 1 1 1 1 1 1 1 1 2 2");
    }

    private static void attacks() {
        RuleArguments x = Made.of("1 <- :5 unless 1", "-1 <- :4");
        Due.same("itself", x.attacks(0, 0), true);
        Due.same("another one", x.attacks(0, 1), true);
        Due.same("not back", x.attacks(1, 0), false);
        Due.same("not itself", x.attacks(1, 1), false);
        Due.same("the last one of 24 itself", Made.full().attacks(23, 23), false);
        Due.same("the first one of 24 itself", Made.full().attacks(0, 0), false);
        Due.same("-10 against 10 of 24", Made.full().attacks(0, 19), true);
        Due.same("3 against -3 of 24", Made.full().attacks(23, 22), true);
        Due.same("-3 against 3 of 24", Made.full().attacks(22, 23), true);
        Due.same("2 against 3 of 24, by its exception", Made.full().attacks(6, 23), true);
    }

    private static void attacksOfTooMany() {
        Refused.ifMoreThan24((x, attacker) -> Due.bit(x.attacks(attacker, 0)));
        Refused.ifMoreThan24((x, other) -> Due.bit(x.attacks(0, other)));
    }

    private static void tooManyAndNoAttacker() {
        Refused.ifMoreThan24AndNoArgument((x, attacker) -> Due.bit(x.attacks(attacker, 0)));
        Refused.ifMoreThan24AndNoArgument((x, other) -> Due.bit(x.attacks(0, other)));
        Refused.ifMoreThan24AndNoArgument((x, both) -> Due.bit(x.attacks(both, both)));
    }
}
