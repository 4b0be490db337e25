/** Promises 21 to 24: the sentences that name an edge, each with a test. */
public final class SetsEdgesTest {
    public static void main(String[] args) {
        Due.promise("Promise 21");
        Due.sentence("Returns how many preferred sets there are", SetsEdgesTest::preferred);
        Due.sentence("Throws `IllegalStateException` if there are more than 14 arguments",
                () -> Refused.ifMoreThan14(RuleArguments::preferred));

        Due.promise("Promise 22");
        Due.sentence("Returns the same, found by trying all sets of arguments.",
                SetsEdgesTest::preferredByAllSets);
        Due.sentence("Throws `IllegalStateException` if there are more than 14 arguments",
                () -> Refused.ifMoreThan14(RuleArguments::preferredByAllSets));

        Due.promise("Promise 23");
        Due.sentence("Tells whether an argument is in a preferred set.", SetsEdgesTest::isInSet);
        Due.sentence("`set`: 0 to preferred() less 1", SetsEdgesTest::sets);
        Due.sentence("Throws `IllegalStateException` if there are more than 14 arguments",
                () -> Refused.ifMoreThan14(x -> Due.bit(x.isInSet(0, 0))));
        Due.sentence("Throws `IndexOutOfBoundsException` if there is no such preferred set",
                SetsEdgesTest::noSuchSet);
        Due.sentence("or no such argument", SetsEdgesTest::noSuchArgument);
        Due.sentence("of several exceptions it is the first one of the throws clause",
                SetsEdgesTest::moreThan14AndNoSet);

        Due.promise("Promise 24");
        Due.sentence("Returns in how many preferred sets a literal is the conclusion of an argument.",
                SetsEdgesTest::setsFor);
        Due.sentence("Throws `IllegalArgumentException` if literal is out of range",
                () -> Refused.ifNoLiteral(RuleArguments::setsFor));
        Due.sentence("Throws `IllegalStateException` if there are more than 14 arguments",
                () -> Refused.literalIfMoreThan14(RuleArguments::setsFor));
        Due.sentence("of several exceptions it is the first one of the throws clause",
                () -> Refused.noLiteralAndMoreThan14(RuleArguments::setsFor));

        Due.finish("sets");
    }

    // ---- promises 21 and 22

    private static void dueCounts(Due.Call count) {
        Due.same("no argument: the empty set", count.on(Made.empty()), 1);
        Due.same("one", count.on(Made.of("1")), 1);
        Due.same("one that attacks itself", count.on(Made.of("1 <- :5 unless 1")), 1);
        Due.same("two", count.on(Made.of("1 <- :5", "-1 <- :5")), 2);
        Due.same("some", count.on(Made.some()), 2);
        Due.same("of 14", count.on(Made.fourteen()), 16);
        Due.same("of 14 without attacks", count.on(Made.of("1", "2", "3", "4", "5", "6", "7", "8",
                "9", "10", "1 <- :5", "1 <- :5", "1 <- :5", "1 <- :5")), 1);
        Due.same("six pairs and two more", count.on(sixPairs()), 64);
        Due.same("a ring of nine", count.on(ring(9)), 1);
        Due.same("a ring of ten", count.on(ring(10)), 2);
        Due.same("twelve that attack each other and themselves", count.on(quarrel()), 1);
        Due.same("of 14, too many before", count.on(fewerThanTooMany()), 1);
        RuleArguments x = Made.fourteen();
        x.setException(7, 1);
        Due.same("the last of 14 with an exception", count.on(x), 8);
        x.setException(7, 0);
        Due.same("without it again", count.on(x), 16);
    }

    private static RuleArguments sixPairs() {
        return Made.of("-9", "10", "1 <- :5", "-1 <- :5", "2 <- :5", "-2 <- :5", "3 <- :5",
                "-3 <- :5", "4 <- :5", "-4 <- :5", "5 <- :5", "-5 <- :5", "6 <- :5", "-6 <- :5");
    }

    /** Each is attacked by the next one, the last one by the first one. */
    private static RuleArguments ring(int length) {
        RuleArguments x = new RuleArguments();
        for (int i = 1; i <= length; i++) {
            x.setException(x.addRule(i, 0, 0, 0, 5), i % length + 1);
        }
        return x;
    }

    private static RuleArguments quarrel() {
        RuleArguments x = new RuleArguments();
        for (int i = 0; i < 12; i++) {
            x.setException(x.addRule(1, 0, 0, 0, 5), 1);
        }
        return x;
    }

    private static RuleArguments fewerThanTooMany() {
        RuleArguments x = Made.tooMany();
        x.arguments();
        for (int number = 1; number <= 10; number++) {
            x.turn(number, number == 9);
        }
        return x;
    }

    private static void preferred() {
        dueCounts(RuleArguments::preferred);
        dueCounts(x -> {
            x.preferredByAllSets();
            return x.preferred();
        });
        dueCounts(x -> {
            x.preferred();
            return x.preferred();
        });
    }

    private static void preferredByAllSets() {
        dueCounts(RuleArguments::preferredByAllSets);
        dueCounts(x -> {
            x.preferred();
            return x.preferredByAllSets();
        });
        RuleArguments x = sixPairs();
        for (int number = 0; number < 12; number++) {
            x.turn(number, false);
            Due.same("fewer", x.preferredByAllSets(), 64 >> ((number + 2) / 2));
            Due.same("fewer, the same", x.preferred(), 64 >> ((number + 2) / 2));
        }
    }

    // ---- promise 23

    private static void isInSet() {
        Due.same("the empty set", Told.sets(Made.of("1 <- :5 unless 1")), "none");
        Due.same("the only one", Made.of("1").isInSet(0, 0), true);
        Due.same("of some", Told.sets(Made.some()), "0 1 2 3 4, 0 1 2 3 5");
        RuleArguments x = sixPairs();
        for (int set = 0; set < 64; set++) {
            Due.same("the first fact in " + set, x.isInSet(set, 0), true);
            Due.same("the last fact in " + set, x.isInSet(set, 1), true);
            Due.same("the first one of the first pair in " + set, x.isInSet(set, 2), set < 32);
            Due.same("the first one of the last pair in " + set, x.isInSet(set, 12), set % 2 == 0);
            Due.same("the last argument in " + set, x.isInSet(set, 13), set % 2 == 1);
        }
    }

    private static void sets() {
        Due.same("the only set", Made.of("1").isInSet(0, 0), true);
        RuleArguments two = Made.of("1 <- :5", "-1 <- :5");
        Due.same("set 0", two.isInSet(0, 0), true);
        Due.same("set 1", two.isInSet(1, 0), false);
        Due.same("set 1, the other one", two.isInSet(1, 1), true);
        Due.same("set 15 of 16", Made.fourteen().isInSet(15, 13), true);
        Due.same("set 63 of 64", sixPairs().isInSet(63, 13), true);
    }

    private static int[] noSets(int count) {
        return new int[] {
            -1, count, count + 1, 162, 163, 256, 16384, 65536, Integer.MAX_VALUE, Integer.MIN_VALUE,
        };
    }

    private static void noSuchSet() {
        Due.refusedForEach("of none, set", Due.INDEX, Made::empty, noSets(1),
                (x, set) -> Due.bit(x.isInSet(set, 0)));
        Due.refusedForEach("of one, set", Due.INDEX, () -> Made.of("1"), noSets(1),
                (x, set) -> Due.bit(x.isInSet(set, 0)));
        Due.refusedForEach("of two, set", Due.INDEX, Made::some, noSets(2),
                (x, set) -> Due.bit(x.isInSet(set, 7)));
        Due.refusedForEach("of sixteen, set", Due.INDEX, Made::fourteen, noSets(16),
                (x, set) -> Due.bit(x.isInSet(set, 13)));
        Due.refusedForEach("neither set nor argument", Due.INDEX, Made::some, noSets(2),
                (x, both) -> Due.bit(x.isInSet(both, both == 2 ? 8 : both)));
        RuleArguments x = Made.of("1 <- :5", "-1 <- :5");
        Due.same("set 1 of two", x.isInSet(1, 1), true);
        x.setPriority(0, 6);
        Due.same("one less", x.preferred(), 1);
        Due.refused("the set that was", Due.INDEX, SetsEdgesTest::oneLess,
                y -> Due.bit(y.isInSet(1, 1)));
    }

    private static RuleArguments oneLess() {
        RuleArguments x = Made.of("1 <- :5", "-1 <- :5");
        x.isInSet(1, 1);
        x.preferredByAllSets();
        x.setPriority(0, 6);
        return x;
    }

    private static void noSuchArgument() {
        Due.refusedForEach("of none, argument", Due.INDEX, Made::empty, Made.noArguments(0),
                (x, argument) -> Due.bit(x.isInSet(0, argument)));
        for (int i = 0; i < 2; i++) {
            int set = i;
            Due.refusedForEach("of eight, argument", Due.INDEX, Made::some, Made.noArguments(8),
                    (x, argument) -> Due.bit(x.isInSet(set, argument)));
        }
        for (int i = 0; i < 16; i += 5) {
            int set = i;
            Due.refusedForEach("of fourteen, argument", Due.INDEX, Made::fourteen,
                    Made.noArguments(14), (x, argument) -> Due.bit(x.isInSet(set, argument)));
        }
    }

    private static void moreThan14AndNoSet() {
        for (int number : noSets(0)) {
            Refused.ifMoreThan14(x -> Due.bit(x.isInSet(number, 0)));
            Refused.ifMoreThan14(x -> Due.bit(x.isInSet(0, number)));
            Refused.ifMoreThan14(x -> Due.bit(x.isInSet(number, number)));
        }
    }

    // ---- promise 24

    private static void setsFor() {
        Made.forEachLiteral(literal -> {
            Due.same("of nothing", Made.empty().setsFor(literal), 0);
            Due.same("a fact", Made.of("" + literal).setsFor(literal), 1);
            Due.same("its opposite", Made.of("" + literal).setsFor(-literal), 0);
        });
        Due.same("in no set", Made.of("1 <- :5 unless 1").setsFor(1), 0);
        RuleArguments twice = Made.of("1 <- :5", "1 <- :5", "-1 <- :5");
        Due.same("twice in a set", twice.setsFor(1), 1);
        Due.same("in the other set", twice.setsFor(-1), 1);
        RuleArguments both = Made.of("2 <- :5", "-2 <- :5", "1 <- 2 :5", "1 <- -2 :5");
        Due.same("in each set by another argument", both.setsFor(1), 2);
        Due.same("in all sets", sixPairs().setsFor(10), 64);
        Due.same("in half of them", sixPairs().setsFor(-6), 32);
        Due.same("in none of them", sixPairs().setsFor(9), 0);
    }
}
