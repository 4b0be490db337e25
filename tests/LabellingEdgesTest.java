/** Promises 16 to 20: the sentences that name an edge, each with a test. */
public final class LabellingEdgesTest {
    public static void main(String[] args) {
        Due.promise("Promise 16");
        Due.sentence("Returns 0 out, 1 undecided, 2 in.", LabellingEdgesTest::labels);
        Refused.sentencesOfArgument(RuleArguments::label);

        Due.promise("Promise 17");
        Due.sentence("Returns the round in which an argument gets its label",
                LabellingEdgesTest::rounds);
        Due.sentence("0 if it is undecided", LabellingEdgesTest::noRound);
        Refused.sentencesOfArgument(RuleArguments::round);

        Due.promise("Promise 18");
        Due.sentence("Returns 2 if it is the conclusion of an argument that is in",
                LabellingEdgesTest::holdsIn);
        Due.sentence("otherwise 1 if of one that is undecided", LabellingEdgesTest::holdsUndecided);
        Due.sentence("otherwise 0", LabellingEdgesTest::holdsNot);
        Refused.sentencesOfLiteral(RuleArguments::holds);

        Due.promise("Promise 19");
        Due.sentence("the lowest argument that is in, with that conclusion",
                LabellingEdgesTest::lowestReason);
        Due.sentence("-1 if there is none", LabellingEdgesTest::noReason);
        Refused.sentencesOfLiteral(RuleArguments::reasonFor);

        Due.promise("Promise 20");
        Due.sentence("of the arguments that attack it, the lowest one that is in",
                LabellingEdgesTest::againstIn);
        Due.sentence("or, if none is, the lowest one that is undecided",
                LabellingEdgesTest::againstUndecided);
        Due.sentence("-1 if there is none", LabellingEdgesTest::nothingAgainst);
        Refused.sentencesOfArgument(RuleArguments::reasonAgainst);

        Due.finish("labelling");
    }

    /** Of 1 one is out, one in, one undecided, in an order of its own; 9 is a fact. */
    private static RuleArguments mixed(String order) {
        RuleArguments x = Made.of("9");
        for (String word : order.split(" ")) {
            Made.add(x, "1 <- :5" + switch (word) {
                case "out" -> " unless 9";
                case "undecided" -> " unless 8";
                default -> "";
            });
        }
        Made.add(x, "8 <- :5 unless 8");
        return x;
    }

    private static void labels() {
        Due.same("all three", Told.labels(mixed("out in undecided")), "2 0 2 1 1");
        Due.same("of 24", Told.labels(Made.full()),
                "2 2 2 2 2 2 2 2 2 2 2 0 0 0 0 0 0 0 0 0 0 0 0 0");
        RuleArguments x = Made.of("1 <- :5");
        Due.same("in", x.label(0), 2);
        x.setException(0, 1);
        Due.same("undecided", x.label(0), 1);
        x.addFact(-1);
        Due.same("out", x.label(1), 0);
        x.takeBack(-1);
        Due.same("undecided again", x.label(0), 1);
    }

    private static void rounds() {
        Due.same("the first", Told.rounds(Made.of("1", "-1 <- :9")), "1 1");
        RuleArguments x = Made.of("1", "2 <- :5 unless 1", "3 <- :5 unless 2", "4 <- :5 unless 3",
                "5 <- :5 unless 4", "6 <- 5 :5 unless 4");
        Due.same("the first to the third", Told.rounds(x), "1 1 2 2 3 3");
        x.takeBack(1);
        Due.same("one round less", Told.rounds(x), "1 1 2 2 2");
        x.setException(0, 2);
        Due.same("none", Told.rounds(x), "0 0 0 0 0");
    }

    private static void noRound() {
        Due.same("attacks itself", Made.of("1 <- :5 unless 1").round(0), 0);
        Due.same("beside labels", Told.rounds(mixed("undecided out in")), "1 0 1 1 0");
    }

    private static void holdsIn() {
        for (String order : new String[] {"in", "in out undecided", "in undecided out",
            "out in undecided", "undecided in out", "out undecided in", "undecided out in", "out in",
            "undecided in"}) {
            Due.same(order, mixed(order).holds(1), 2);
        }
        Made.forEachLiteral(literal -> {
            Due.same("a fact", Made.of("" + literal).holds(literal), 2);
            Due.same("a rule's head", Made.of(literal + " <- :0").holds(literal), 2);
        });
    }

    private static void holdsUndecided() {
        for (String order : new String[] {"undecided", "undecided out", "out undecided",
            "out undecided out", "undecided undecided"}) {
            Due.same(order, mixed(order).holds(1), 1);
        }
        Made.forEachLiteral(literal -> {
            RuleArguments x = Made.of(literal + " <- :5", -literal + " <- :5");
            Due.same("one of two", x.holds(literal), 1);
        });
    }

    private static void holdsNot() {
        Due.same("out", mixed("out").holds(1), 0);
        Due.same("out twice", mixed("out out").holds(1), 0);
        Due.same("the opposite of in", mixed("in").holds(-1), 0);
        Due.same("the opposite of undecided", mixed("undecided").holds(-1), 0);
        Due.same("the opposite of out", mixed("out").holds(-1), 0);
        Due.same("without argument", mixed("in").holds(10), 0);
        Due.same("of nothing", Made.empty().holds(-10), 0);
        Due.same("a rule that is off", Made.of("off 1 <- :5").holds(1), 0);
        RuleArguments x = Made.of("1", "-2 <- 1 :5", "3 <- :5 unless 3");
        Due.same("as long as it is on", x.holds(-2), 2);
        Due.same("as long as it is on", x.holds(3), 1);
        x.turn(0, false);
        x.turn(1, false);
        Due.same("a rule turned off", x.holds(-2), 0);
        Due.same("a rule turned off", x.holds(3), 0);
        x.takeBack(1);
        Due.same("a fact taken back", x.holds(1), 0);
    }

    private static void lowestReason() {
        Due.same("the argument 0", Made.of("-10", "-10 <- :5").reasonFor(-10), 0);
        Due.same("the first of three", mixed("in in in").reasonFor(1), 1);
        Due.same("behind one that is out", mixed("out in in").reasonFor(1), 2);
        Due.same("behind one that is undecided", mixed("undecided out in").reasonFor(1), 3);
        Due.same("a rule's before a fact is", Made.of("5", "1 <- :5").reasonFor(1), 1);
        RuleArguments last = Made.of("1", "2", "3", "4", "5", "6", "7", "8", "1 <- :1", "1 <- :1",
                "2 <- 1 :1", "3 <- 1 :1", "4 <- 1 :1", "5 <- 1 :1", "9 <- :1", "-10 <- 9 :1");
        Due.same("the last one of 24", last.reasonFor(-10), 23);
        Due.same("one of three of 24", last.reasonFor(1), 0);
    }

    private static void noReason() {
        Due.same("out", mixed("out").reasonFor(1), -1);
        Due.same("undecided", mixed("undecided").reasonFor(1), -1);
        Due.same("its opposite", mixed("in").reasonFor(-1), -1);
        Due.same("without argument", mixed("in").reasonFor(-10), -1);
        Due.same("of nothing", Made.empty().reasonFor(1), -1);
    }

    /** What is told against the opposite of 1, which attacks no argument for 1. */
    private static int against(String order) {
        RuleArguments x = mixed(order);
        x.addRule(-1, 0, 0, 0, 0);
        return x.reasonAgainst(x.arguments() - 1);
    }

    private static void againstIn() {
        Due.same("in", against("in"), 1);
        Due.same("in twice", against("in in"), 1);
        Due.same("out before in", against("out in in"), 2);
        Due.same("undecided before in", against("undecided in in"), 2);
        Due.same("both before in", against("undecided out in"), 3);
        Due.same("undecided behind in", against("in undecided"), 1);
        Due.same("the argument 0", Made.of("1", "-1 <- :9").reasonAgainst(1), 0);
        Due.same("by an exception, of 24", Made.full().reasonAgainst(23), 6);
        Due.same("by a fact, of 24", Made.full().reasonAgainst(19), 0);
        Due.same("against what it is built of",
                Made.of("1", "-1 <- :9", "2 <- -1 :9").reasonAgainst(2), 0);
    }

    private static void againstUndecided() {
        Due.same("undecided", against("undecided"), 1);
        Due.same("undecided twice", against("undecided undecided"), 1);
        Due.same("out before undecided", against("out undecided undecided"), 2);
        Due.same("itself", Made.of("1 <- :5 unless 1").reasonAgainst(0), 0);
        Due.same("another one before itself",
                Made.of("1 <- :5 unless 1", "1 <- :5 unless 1").reasonAgainst(1), 0);
        Due.same("one of two", Made.of("1 <- :5", "-1 <- :5").reasonAgainst(0), 1);
    }

    private static void nothingAgainst() {
        Due.same("out", against("out"), -1);
        Due.same("out twice", against("out out"), -1);
        Due.same("not attacked", Made.of("1 <- :5").reasonAgainst(0), -1);
        RuleArguments x = Made.of("1", "-1 <- :9", "2 <- 1 :5", "-2 <- :4");
        Due.same("facts and what beats others", Told.reasonsAgainst(x), "-1 0 -1 2");
    }
}
