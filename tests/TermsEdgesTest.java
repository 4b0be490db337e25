/** The sentences of the document's "What it is" and "Terms" that name an edge, each with a test. */
public final class TermsEdgesTest {
    public static void main(String[] args) {
        Due.promise("What it is");
        Due.sentence("An object is used for at most 512 calls after it has been made",
                TermsEdgesTest::call512);

        Due.promise("Terms");
        Due.sentence("There are ten statements.", TermsEdgesTest::tenStatements);
        Due.sentence("1 to 10 says that the statement with that number holds, -1 to -10 that it"
                + " does not", TermsEdgesTest::literals);
        Due.sentence("the opposite of a literal has the other sign", TermsEdgesTest::opposite);
        Due.sentence("a literal and its opposite are never both facts", TermsEdgesTest::neverBoth);
        Due.sentence("Rules are numbered from 0, at most 12.", TermsEdgesTest::twelveRules);
        Due.sentence("up to three different literals as its body", TermsEdgesTest::bodies);
        Due.sentence("a priority from 0 to 9", TermsEdgesTest::priorities);
        Due.sentence("and perhaps an exception, which is a literal", TermsEdgesTest::exceptions);
        Due.sentence("it is on or off, on at first", TermsEdgesTest::onAtFirst);

        Due.promise("Terms, arguments");
        Due.sentence("Each fact is an argument, with that literal as its conclusion, the strength"
                + " 10 and the depth 0.", TermsEdgesTest::factsAreArguments);
        Due.sentence("A rule that is on makes arguments", TermsEdgesTest::rulesThatAreOff);
        Due.sentence("out of one argument for each literal of its body, with that literal as its"
                + " conclusion, in the order of the body", TermsEdgesTest::oneForEachLiteral);
        Due.sentence("The head of the rule is its conclusion, the priority its strength",
                TermsEdgesTest::strengths);
        Due.sentence("its depth 1 more than the greatest depth of its parts, or 1 without parts",
                TermsEdgesTest::depths);
        Due.sentence("No argument is built of one with its own conclusion.",
                TermsEdgesTest::ownConclusion);
        Due.sentence("Arguments are numbered from 0: by rising depths", TermsEdgesTest::byDepths);
        Due.sentence("of the same depth facts by rising literals", TermsEdgesTest::byLiterals);
        Due.sentence("others by rising rules", TermsEdgesTest::byRules);
        Due.sentence("then by the numbers of their first parts", TermsEdgesTest::byFirstParts);
        Due.sentence("then of their second ones", TermsEdgesTest::bySecondParts);
        Due.sentence("then of their third ones", TermsEdgesTest::byThirdParts);
        Due.sentence("If there are more than 24 arguments, there are too many",
                TermsEdgesTest::moreThan24);
        Due.sentence("and nothing can be told of them", TermsEdgesTest::nothingTold);

        Due.promise("Terms, attacks");
        Due.sentence("if b itself, or something that it is built of, is an argument c that a rule"
                + " makes", TermsEdgesTest::attackedThroughWhatItIsBuiltOf);
        Due.sentence("the conclusion of a is the opposite of that of c", TermsEdgesTest::opposites);
        Due.sentence("and the strength of a is that of c or greater", TermsEdgesTest::asStrong);
        Due.sentence("or the conclusion of a is the exception of the rule of c",
                TermsEdgesTest::attackedByException);
        Due.sentence("whatever the strengths are", TermsEdgesTest::exceptionOfAnyStrength);
        Due.sentence("So facts are not attacked", TermsEdgesTest::factsNotAttacked);
        Due.sentence("and an argument can attack itself", TermsEdgesTest::attacksItself);

        Due.promise("Terms, the grounded labelling");
        Due.sentence("first all arguments without a label become in whose attackers are all out",
                TermsEdgesTest::becomeIn);
        Due.sentence("then all arguments without a label become out that an argument which is in"
                + " attacks", TermsEdgesTest::becomeOut);
        Due.sentence("Rounds are numbered from 1", TermsEdgesTest::roundsFrom1);
        Due.sentence("after a round in which no argument gets a label there are no more",
                TermsEdgesTest::lastRound);
        Due.sentence("What has no label then is undecided.", TermsEdgesTest::undecided);

        Due.promise("Terms, preferred sets");
        Due.sentence("none of it attacks another one of it, or itself", TermsEdgesTest::peaceful);
        Due.sentence("and each argument that attacks one of it is attacked by one of it",
                TermsEdgesTest::defended);
        Due.sentence("to which no arguments can be added so that it is still one",
                TermsEdgesTest::nothingToAdd);
        Due.sentence("Preferred sets are told only if there are at most 14 arguments.",
                TermsEdgesTest::atMost14);
        Due.sentence("They are numbered from 0: of two sets the one comes first that has the lowest"
                + " argument that is in just one of them.", TermsEdgesTest::setOrder);

        Due.finish("terms");
    }

    // ---- what it is

    private static void call512() {
        RuleArguments x = new RuleArguments();
        for (int call = 1; call <= 511; call += 2) {
            Due.same("call " + call, x.addFact(-10), 1);
            if (call < 511) {
                Due.same("call " + (call + 1), x.takeBack(-10), true);
            }
        }
        Due.same("call 512", x.arguments(), 1);

        RuleArguments y = Made.fourteen();
        for (int call = 15; call + 2 <= 512; call += 3) {
            boolean on = call % 2 == 0;
            Due.same("call " + call, y.turn(0, on), !on);
            Due.same("call " + (call + 1), y.preferred(), on ? 16 : 8);
            Due.same("call " + (call + 2), y.preferredByAllSets(), on ? 16 : 8);
        }
    }

    // ---- literals, facts and rules

    private static void tenStatements() {
        RuleArguments x = Made.of("1", "-2", "3", "-4", "5", "-6", "7", "-8", "9", "-10");
        Due.same("conclusions", Told.conclusions(x), "-10 -8 -6 -4 -2 1 3 5 7 9");
        Due.refused("an 11th statement", Due.ARGUMENT, Made::full, y -> y.addFact(11));
        Due.refused("the opposite of an 11th", Due.ARGUMENT, Made::full, y -> y.addFact(-11));
    }

    private static void literals() {
        Made.forEachLiteral(literal -> {
            int other = literal == 4 ? 5 : 4;
            RuleArguments x = Made.of("" + literal);
            Due.same("a fact", x.conclusion(0), literal);
            Due.same("its opposite", x.holds(-literal), 0);
            RuleArguments y = Made.of(literal + " <- :1", other + " <- " + literal + " :1");
            Due.same("head and body", Told.list(y), literal + "/0/1() " + other + "/1/2(0)");
            RuleArguments z = Made.of("" + literal, other + " <- :1 unless " + literal);
            Due.same("exception", Told.labels(z), "2 0");
        });
        Due.refused("addFact 0", Due.ARGUMENT, Made::empty, x -> x.addFact(0));
    }

    private static void opposite() {
        Made.forEachLiteral(fact -> Made.forEachLiteral(head -> {
            RuleArguments x = Made.of("" + fact, head + " <- :9");
            Due.same(fact + " against " + head, x.attacks(0, 1), head == -fact);
        }));
    }

    private static void neverBoth() {
        Made.forEachLiteral(literal -> {
            Due.refused("the opposite of the fact " + literal, Due.STATE,
                    () -> Made.of("" + literal), x -> x.addFact(-literal));
            RuleArguments x = Made.of("" + literal);
            x.takeBack(literal);
            Due.same("the opposite of what was a fact", x.addFact(-literal), 1);
        });
    }

    private static void twelveRules() {
        RuleArguments x = new RuleArguments();
        for (int number = 0; number < 12; number++) {
            Due.same("number", x.addRule(1, 0, 0, 0, number % 10), number);
        }
        for (int number = 0; number < 12; number++) {
            Due.same("priority of " + number, x.setPriority(number, 0), number % 10);
        }
        Due.refused("a 13th", Due.STATE, Made::full, y -> y.addRule(1, 0, 0, 0, 0));
    }

    private static void bodies() {
        RuleArguments x = Made.of("1", "2", "3", "4 <- :1", "4 <- 3 :1", "4 <- 3 1 :1",
                "4 <- 3 1 2 :1");
        Due.same("none to three", Told.list(x),
                "1/-1/0() 2/-1/0() 3/-1/0() 4/0/1() 4/1/1(2) 4/2/1(2 0) 4/3/1(2 0 1)");
        RuleArguments y = Made.of("1 <- :1", "-1 <- :1", "2 <- 1 -1 :1");
        Due.same("opposites are different", Told.list(y), "1/0/1() -1/1/1() 2/2/2(0 1)");
    }

    private static void priorities() {
        for (int priority = 0; priority <= 9; priority++) {
            RuleArguments x = new RuleArguments();
            x.addRule(1, 0, 0, 0, priority);
            Due.same("of a new rule", x.setPriority(0, 9 - priority), priority);
            Due.same("changed", x.setPriority(0, 0), 9 - priority);
        }
        Due.refusedForEach("a rule of priority", Due.ARGUMENT, Made::some, Made.NO_PRIORITIES,
                (x, priority) -> x.addRule(1, 0, 0, 0, priority));
        Due.refusedForEach("a change to priority", Due.ARGUMENT, Made::some, Made.NO_PRIORITIES,
                (x, priority) -> x.setPriority(0, priority));
    }

    private static void exceptions() {
        RuleArguments x = Made.of("2", "1 <- :1");
        Due.same("none at first", Told.labels(x), "2 2");
        Due.same("none at first", x.setException(0, 0), 0);
        Made.forEachLiteral(literal -> {
            x.setException(0, literal);
            Due.same("exception " + literal, x.setException(0, literal), literal);
            Due.same("label with it", x.label(1), literal == 2 ? 0 : literal == 1 ? 1 : 2);
        });
        Due.same("none again", x.setException(0, 0), 10);
        Due.same("label then", x.label(1), 2);
    }

    private static void onAtFirst() {
        RuleArguments x = new RuleArguments();
        for (int number = 0; number < 12; number++) {
            x.addRule(1, 0, 0, 0, 1);
            Due.same("at first", x.turn(number, false), true);
            Due.same("then", x.turn(number, true), false);
        }
        Due.same("arguments", x.arguments(), 12);
    }

    // ---- arguments

    private static void factsAreArguments() {
        RuleArguments x = Made.of("5", "-9", "1 <- 5 :9", "-5 <- :9", "9 <- :0 unless -9");
        Due.same("arguments", Told.list(x), "-9/-1/0() 5/-1/0() 1/0/1(1) -5/1/1() 9/2/1()");
        Due.same("against 9", x.attacks(1, 3), true);
        Due.same("9 against it", x.attacks(3, 1), false);
        Due.same("against 0", x.attacks(0, 4), true);
    }

    private static void rulesThatAreOff() {
        RuleArguments x = Made.of("1", "off 2 <- 1 :5", "3 <- 2 :5", "off 4 <- :5");
        Due.same("off", Told.list(x), "1/-1/0()");
        x.turn(0, true);
        Due.same("one on", Told.list(x), "1/-1/0() 2/0/1(0) 3/1/2(1)");
        x.turn(0, false);
        x.turn(2, true);
        Due.same("the other one on", Told.list(x), "1/-1/0() 4/2/1()");
    }

    private static void oneForEachLiteral() {
        RuleArguments none = Made.of("1", "2", "4 <- 1 2 3 :1", "5 <- 1 -2 :1", "6 <- -1 :1");
        Due.same("a literal without argument", none.arguments(), 2);
        RuleArguments x = Made.of("1", "2", "1 <- :1", "2 <- :1", "3 <- 2 1 :1");
        Due.same("all ways", Told.list(x), "1/-1/0() 2/-1/0() 1/0/1() 2/1/1()"
                + " 3/2/1(1 0) 3/2/2(1 2) 3/2/2(3 0) 3/2/2(3 2)");
        RuleArguments y = Made.of("-7", "-8", "9", "1 <- 9 -7 -8 :1", "1 <- -7 -8 9 :1");
        Due.same("in the order of the body", Told.parts(y, 3) + ", " + Told.parts(y, 4),
                "2 1 0, 1 0 2");
        RuleArguments z = Made.of("1", "1 <- :1", "2 <- 1 :1", "3 <- 1 2 :1");
        Due.same("one literal by two different arguments", Told.list(z),
                "1/-1/0() 1/0/1() 2/1/1(0) 2/1/2(1) 3/2/2(0 2) 3/2/2(1 2) 3/2/3(0 3) 3/2/3(1 3)");
    }

    private static void strengths() {
        for (int priority = 0; priority <= 9; priority++) {
            for (int other = 0; other <= 9; other++) {
                RuleArguments x = Made.of("1", "2 <- 1 :" + priority, "-2 <- :" + other);
                Due.same("heads", Told.conclusions(x), "1 2 -2");
                Due.same(priority + " against " + other, x.attacks(1, 2), priority >= other);
            }
        }
        RuleArguments y = Made.of("1", "2 <- 1 :1", "3 <- 2 :5", "-3 <- :3");
        Due.same("not that of a weaker part", Told.attackersOf(y, 2) + ","
                + Told.attackersOf(y, 3), "3,");
        RuleArguments z = Made.of("1", "2 <- 1 :5", "3 <- 2 :1", "-3 <- :3");
        Due.same("not that of a stronger part", Told.attackersOf(z, 2) + ","
                + Told.attackersOf(z, 3), ",2");
    }

    private static void depths() {
        Due.same("without parts", Made.of("1 <- :1").depth(0), 1);
        Due.same("of facts", Made.of("1", "2 <- 1 :1").depth(1), 1);
        for (String body : new String[] {"4 1 2", "1 4 2", "1 2 4"}) {
            RuleArguments x = Made.of("1", "2", "3 <- :1", "4 <- 3 :1", "5 <- " + body + " :1");
            Due.same("the greatest in " + body, Told.depths(x), "0 0 1 2 3");
        }
        Due.same("the deepest", Told.depths(chain()), "1 2 3 4 5 6 7 8 9 10 11 12");
    }

    /** Twelve rules, one out of the other. */
    private static RuleArguments chain() {
        return Made.of("1 <- :5", "2 <- 1 :5", "3 <- 2 :5", "4 <- 3 :5", "5 <- 4 :5", "6 <- 5 :5",
                "7 <- 6 :5", "8 <- 7 :5", "9 <- 8 :5", "10 <- 9 :5", "-1 <- 10 :4", "-2 <- -1 :4");
    }

    private static void ownConclusion() {
        Due.same("of itself alone", Made.of("1 <- 1 :1").arguments(), 0);
        Due.same("head in the body", Made.of("1", "1 <- 1 :1").arguments(), 1);
        Due.same("at the second place", Made.of("1", "2", "1 <- 2 1 :1").arguments(), 2);
        Due.same("at the third place", Made.of("1", "2", "3", "1 <- 2 3 1 :1").arguments(), 3);
        for (String body : new String[] {"4 2 3", "2 4 3", "2 3 4"}) {
            RuleArguments x = Made.of("1", "2", "3", "4 <- 1 :1", "1 <- " + body + " :1",
                    "5 <- 1 :1");
            Due.same("below " + body, Told.conclusions(x), "1 2 3 4 5");
            RuleArguments y = Made.of("1", "2", "3", "4 <- 1 :1", "6 <- " + body + " :1",
                    "7 <- 6 :1", "1 <- 7 :1", "5 <- 1 :1");
            Due.same("deep below " + body, Told.conclusions(y), "1 2 3 4 5 6 7");
        }
        RuleArguments ring = Made.of("1", "2 <- 1 :1", "3 <- 2 :1", "1 <- 3 :1");
        Due.same("a ring", Told.list(ring), "1/-1/0() 2/0/1(0) 3/1/2(1)");
        ring.addFact(3);
        Due.same("a ring with two ways in", Told.list(ring),
                "1/-1/0() 3/-1/0() 2/0/1(0) 1/2/1(1) 2/0/2(3) 3/1/2(2)");
        Due.same("its opposite", Made.of("1", "-1 <- 1 :1").arguments(), 2);
        Due.same("the same conclusion twice in its parts",
                Made.of("1", "2 <- 1 :1", "3 <- 2 1 :1").arguments(), 3);
        Due.same("a chain of twelve", chain().arguments(), 12);
        RuleArguments closed = Made.of("1", "2 <- 1 :5", "3 <- 2 :5", "4 <- 3 :5", "5 <- 4 :5",
                "6 <- 5 :5", "7 <- 6 :5", "8 <- 7 :5", "9 <- 8 :5", "10 <- 9 :5", "-1 <- 10 :4",
                "-2 <- -1 :4", "1 <- -2 :4");
        Due.same("eleven deep", closed.arguments(), 12);
    }

    private static void byDepths() {
        RuleArguments x = Made.of("3 <- 2 :1", "2 <- 1 :1", "4 <- 3 :1", "1 <- :1", "10");
        Due.same("deeper ones later", Told.list(x),
                "10/-1/0() 1/3/1() 2/1/2(1) 3/0/3(2) 4/2/4(3)");
        RuleArguments y = Made.of("1", "2 <- 3 :1", "2 <- 1 :1", "3 <- :1");
        Due.same("of one conclusion", Told.list(y), "1/-1/0() 2/1/1(0) 3/2/1() 2/0/2(2)");
    }

    private static void byLiterals() {
        RuleArguments x = Made.of("10", "1", "-1 <- :1", "-9", "5", "-2", "-8", "3");
        Due.same("facts", Told.conclusions(x), "-9 -8 -2 1 3 5 10 -1");
        RuleArguments y = Made.of("10", "-9", "8", "-7", "6", "-5", "4", "-3", "2", "-1");
        Due.same("ten facts", Told.conclusions(y), "-9 -7 -5 -3 -1 2 4 6 8 10");
    }

    private static void byRules() {
        RuleArguments x = Made.of("1", "5 <- 1 :1", "-5 <- :9", "2 <- 1 :0", "2 <- 1 :9", "-4 <- :3",
                "-3 <- :3", "6 <- :1", "7 <- :1", "8 <- :1", "9 <- :1", "10 <- :1", "1 <- :1");
        Due.same("whatever heads, priorities and bodies", Told.makers(x),
                "-1 0 1 2 3 4 5 6 7 8 9 10 11 0 2 3");
        RuleArguments y = Made.of("1", "2", "1 <- 2 :1", "3 <- 1 :1", "3 <- 2 :1", "4 <- 3 :1");
        Due.same("before their parts", Told.list(y),
                "1/-1/0() 2/-1/0() 1/0/1(1) 3/1/1(0) 3/2/1(1) 3/1/2(2) 4/3/2(3) 4/3/2(4) 4/3/3(5)");
    }

    private static void byFirstParts() {
        RuleArguments x = Made.of("1 <- :1", "2 <- :1", "1 <- :1", "2 <- :1", "3 <- 2 1 :1");
        Due.same("rising first parts, then second ones", Told.listFrom(x, 4),
                "3/4/2(1 0) 3/4/2(1 2) 3/4/2(3 0) 3/4/2(3 2)");
        RuleArguments y = Made.of("1", "1 <- 4 :1", "4 <- :1", "2 <- 4 1 :1", "3 <- 1 2 :1");
        Due.same("depth before the first part", Told.list(y), "1/-1/0() 4/1/1() 1/0/2(1) 2/2/2(1 0)"
                + " 2/2/3(1 2) 3/3/3(0 3) 3/3/3(2 3) 3/3/4(0 4) 3/3/4(2 4)");
    }

    private static void bySecondParts() {
        RuleArguments x = Made.of("5", "2 <- :1", "1 <- :1", "1 <- :1", "2 <- :1", "3 <- 5 2 1 :1");
        Due.same("rising second parts, then third ones", Told.listFrom(x, 5),
                "3/4/2(0 1 2) 3/4/2(0 1 3) 3/4/2(0 4 2) 3/4/2(0 4 3)");
    }

    private static void byThirdParts() {
        RuleArguments x = Made.of("5", "6", "-7", "2 <- -7 :1", "2 <- 5 :1", "2 <- 6 :1",
                "3 <- 6 5 2 :1");
        Due.same("rising third parts", Told.listFrom(x, 6),
                "3/3/2(2 1 3) 3/3/2(2 1 4) 3/3/2(2 1 5)");
    }

    private static void moreThan24() {
        Due.same("24", Made.full().arguments(), 24);
        Due.same("25", Made.tooMany().arguments(), -1);
        RuleArguments x = Made.of("1", "1 <- :5", "2 <- 1 :5", "3 <- 2 :5", "4 <- 3 :5", "5 <- 4 :5",
                "6 <- 5 :5", "7 <- 6 :5", "8 <- 7 :5", "9 <- 8 :5", "10 <- 9 :5", "-2 <- 10 :4");
        Due.same("22, eleven deep", x.arguments(), 22);
        x.addRule(-3, -2, 0, 0, 1);
        Due.same("24, twelve deep", x.arguments(), 24);
        Due.same("the deepest", x.depth(23), 12);
        x.addFact(-3);
        Due.same("one more fact", x.arguments(), -1);
        x.takeBack(-3);
        Due.same("one less", x.arguments(), 24);
        RuleArguments deep = Made.of("1", "1 <- :5", "2 <- 1 :5", "3 <- 2 :5", "4 <- 3 :5",
                "5 <- 4 :5", "6 <- 5 :5", "7 <- 6 :5", "8 <- 7 :5", "9 <- 8 :5", "10 <- 9 :5",
                "-2 <- 10 :4", "-3 <- -2 1 :1");
        Due.same("26, the 25th at the depth 12", deep.arguments(), -1);
        RuleArguments wide = Made.of("1", "1 <- :1", "1 <- :1", "1 <- :1", "2", "2 <- :1", "2 <- :1",
                "2 <- :1", "3", "3 <- :1", "3 <- :1", "3 <- :1", "4 <- 1 2 3 :1", "5 <- 4 1 2 :1",
                "6 <- 5 4 1 :1");
        Due.same("hundreds of thousands", wide.arguments(), -1);
    }

    private static void nothingTold() {
        RuleArguments x = Made.tooMany();
        x.turn(11, false);
        Due.same("told when there are fewer", x.arguments(), 23);
        Due.same("the last one", x.conclusion(22), 3);
        x.turn(11, true);
        Due.same("not any more", x.arguments(), -1);
        Due.same("facts", x.facts(), 10);
        Due.same("rules", x.rules(), 12);
        for (int i = 0; i < 25; i++) {
            int argument = i;
            Due.refused("conclusion " + i, Due.STATE, Made::tooMany, y -> y.conclusion(argument));
            Due.refused("label " + i, Due.STATE, Made::tooMany, y -> y.label(argument));
        }
    }

    // ---- attacks

    private static void attackedThroughWhatItIsBuiltOf() {
        RuleArguments x = Made.of("-1", "4", "1 <- :5", "2 <- 1 :5", "3 <- 4 2 :5", "6 <- 4 :5",
                "-4 <- :9");
        Due.same("arguments", Told.list(x),
                "-1/-1/0() 4/-1/0() 1/0/1() 6/3/1(1) -4/4/1() 2/1/2(2) 3/2/3(1 5)");
        Due.same("itself", Told.attackersOf(x, 2), "0");
        Due.same("through its part", Told.attackersOf(x, 5), "0");
        Due.same("through a part's part at the second place", Told.attackersOf(x, 6), "0");
        Due.same("not through a fact", Told.attackersOf(x, 3), "");
        Due.same("by a fact", Told.attackersOf(x, 4), "1");
        Due.same("not through what is built of it", Told.attackersOf(x, 0), "");
        RuleArguments attacker = Made.of("1 <- :5", "2 <- 1 :5", "-1 <- :5");
        Due.same("not by what an attacker is built into", Told.attackersOf(attacker, 1), "0");
        RuleArguments third = Made.of("-1", "4", "5", "1 <- :5", "2 <- 4 5 1 :5", "3 <- 1 4 5 :5");
        Due.same("through the third and the first place",
                Told.attackersOf(third, 4) + "," + Told.attackersOf(third, 5), "0,0");
        RuleArguments deep = chain();
        deep.addFact(-3);
        deep.setException(0, -3);
        for (int i = 1; i <= 12; i++) {
            Due.same("a fact against depth " + i, deep.attacks(0, i), true);
        }
    }

    private static void opposites() {
        RuleArguments x = Made.of("1 <- :5", "1 <- :5", "-1 <- :5", "2 <- :9", "-2 <- :5");
        Due.same("opposite, not the same one or another one", Told.attackersOf(x, 0) + ","
                + Told.attackersOf(x, 2) + "," + Told.attackersOf(x, 3) + ","
                + Told.attackersOf(x, 4), "2,0 1,,3");
        RuleArguments y = Made.of("2", "10 <- 2 :9", "3 <- 10 :9", "-2 <- :9", "-10 <- :9");
        Due.same("of what it is built of", Told.attackersOf(y, 4), "3");
    }

    private static void asStrong() {
        String[] priorities = {"0 0", "0 1", "1 0", "8 9", "9 8", "9 9"};
        for (String pair : priorities) {
            int one = pair.charAt(0) - '0';
            int other = pair.charAt(2) - '0';
            RuleArguments x = Made.of("4 <- :" + one, "-4 <- :" + other, "5 <- -4 :0");
            Due.same(pair, x.attacks(0, 1), one >= other);
            Due.same(pair + ", built of it", x.attacks(0, 2), one >= other);
            Due.same(pair + ", back", x.attacks(1, 0), other >= one);
        }
        Due.same("a fact, 10", Made.of("4", "-4 <- :9").attacks(0, 1), true);
    }

    private static void attackedByException() {
        RuleArguments x = Made.of("3", "1 <- :9 unless 3", "2 <- 1 :9", "3 <- :0", "-3 <- :9");
        Due.same("arguments", Told.conclusions(x), "3 1 3 -3 2");
        Due.same("the rule's own", Told.attackersOf(x, 1), "0 2");
        Due.same("of what it is built of", Told.attackersOf(x, 4), "0 2");
        RuleArguments y = Made.of("-3", "1 <- :9 unless 3", "2 <- 1 :9");
        Due.same("not the opposite of the exception", Told.attackersOf(y, 1), "");
        RuleArguments z = Made.of("3", "1 <- 3 :9", "2 <- 1 :9 unless -1", "-1 <- :0");
        Due.same("not below the rule", Told.attackersOf(z, 1) + "," + Told.attackersOf(z, 3), ",2");
        RuleArguments none = Made.of("1 <- :0", "2 <- :0", "-3 <- :0");
        Due.same("without exception", Told.attackersOf(none, 0), "");
    }

    private static void exceptionOfAnyStrength() {
        for (int one = 0; one <= 9; one++) {
            for (int other = 0; other <= 9; other++) {
                RuleArguments x = Made.of("1 <- :" + one + " unless 2", "2 <- :" + other);
                Due.same(other + " against " + one, x.attacks(1, 0), true);
                Due.same("back", x.attacks(0, 1), false);
            }
        }
        Due.same("the opposite as exception",
                Made.of("1 <- :9 unless -1", "-1 <- :0").attacks(1, 0), true);
    }

    private static void factsNotAttacked() {
        RuleArguments x = Made.of("1", "-2", "-1 <- :9", "2 <- :9", "-1 <- 1 :9 unless 1",
                "2 <- -2 :9");
        Due.same("by rules", Told.attackersOf(x, 0) + "," + Told.attackersOf(x, 1), ",");
        Due.same("what is in", x.holds(1), 2);
        Due.same("what is in", x.holds(-2), 2);
    }

    private static void attacksItself() {
        Due.same("by its rule's exception", Made.of("1 <- :1 unless 1").attacks(0, 0), true);
        RuleArguments x = Made.of("1 <- :5", "2 <- 1 :5", "-1 <- 2 :5");
        Due.same("by the opposite of a part's part, as strong", x.attacks(2, 2), true);
        x.setPriority(2, 4);
        Due.same("weaker", x.attacks(2, 2), false);
        x.setException(0, -1);
        Due.same("by the exception of a part's part", x.attacks(2, 2), true);
        Due.same("not the part", x.attacks(1, 1), false);
        Due.same("not by a fact's opposite", Made.of("1", "-1 <- 1 :9").attacks(1, 1), false);
        RuleArguments y = Made.of("1 <- :1", "1 <- 2 :1 unless 1", "2 <- :1");
        Due.same("each of that conclusion", Told.attackersOf(y, 2), "0 2");
    }

    // ---- the grounded labelling

    private static void becomeIn() {
        Due.same("without attackers", Told.labels(Made.of("1", "2 <- 1 :0", "3 <- :0")), "2 2 2");
        RuleArguments x = Made.of("1", "2 <- :5 unless 1", "3 <- :5 unless 2", "4 <- :5 unless 3");
        Due.same("attackers that are out", Told.labels(x), "2 0 2 0");
        Due.same("only after they are out", Told.rounds(x), "1 1 2 2");
        RuleArguments y = Made.of("1", "2 <- :5 unless 1", "2 <- :5 unless 2", "3 <- :5 unless 2");
        Due.same("one out, one undecided", Told.labels(y), "2 0 1 1");
        RuleArguments z = Made.of("1", "2 <- :5 unless 1", "3 <- :5 unless 2", "4 <- :5 unless 2",
                "5 <- :5 unless 3");
        Due.same("all in one round", Told.rounds(z), "1 1 2 2 2");
        Due.same("their labels", Told.labels(z), "2 0 2 2 0");
    }

    private static void becomeOut() {
        RuleArguments x = Made.of("1", "2 <- :5 unless 1", "3 <- 2 :5", "4 <- 3 :5");
        Due.same("in the round of the attacker", Told.rounds(x), "1 1 1 1");
        Due.same("all that one attacks", Told.labels(x), "2 0 0 0");
        RuleArguments y = Made.of("1", "2 <- :5 unless 1", "3 <- :5 unless 2");
        Due.same("not by one that is out", Told.labels(y), "2 0 2");
        RuleArguments z = Made.of("1 <- :5 unless 1", "2 <- :5 unless 1");
        Due.same("not by one that is undecided", Told.labels(z), "1 1");
        RuleArguments both = Made.of("1", "2 <- :5 unless 1", "3 <- :5 unless 2",
                "-4 <- :5 unless -4", "4 <- :5 unless 3", "4 <- :1 unless -4");
        Due.same("one in, one undecided", Told.labels(both), "2 0 2 1 0 1");
        Due.same("the argument 0", Told.labels(Made.of("1 <- :4", "-1 <- :5")), "0 2");
        RuleArguments itself = Made.of("1", "2 <- :5 unless 2", "-2 <- :9");
        Due.same("one that attacks itself", Told.labels(itself), "2 0 2");
    }

    private static void roundsFrom1() {
        RuleArguments x = Made.of("1 <- :9", "2 <- :5 unless 1", "3 <- :5 unless 2",
                "4 <- :5 unless 3", "5 <- :5 unless 4", "6 <- :5 unless 5", "7 <- :5 unless 6",
                "8 <- :5 unless 7", "9 <- :5 unless 8", "10 <- :5 unless 9", "-2 <- :4 unless 10",
                "-4 <- :4 unless -2");
        Due.same("twelve in a row", Told.rounds(x), "1 1 2 2 3 3 4 4 5 5 6 6");
        Due.same("labels", Told.labels(x), "2 0 2 0 2 0 2 0 2 0 2 0");
        RuleArguments y = Made.of("4", "1 <- :1 unless 2", "2 <- :1 unless 3", "3 <- :1 unless 4");
        Due.same("whatever the order of their numbers", Told.rounds(y), "1 2 2 1");
    }

    private static void lastRound() {
        RuleArguments x = Made.of("1", "2 <- :5", "-2 <- :5", "3 <- :5 unless 2",
                "4 <- :5 unless -2", "5 <- :5 unless 4");
        Due.same("what rounds do not reach", Told.labels(x), "2 1 1 1 1 1");
        Due.same("its rounds", Told.rounds(x), "1 0 0 0 0 0");
        Due.same("no argument at all", Told.labels(Made.empty()), "");
        RuleArguments y = Made.of("1 <- :5 unless 2", "2 <- :5 unless 1", "3 <- :5",
                "4 <- :5 unless 3", "5 <- :5 unless 4", "6 <- :5 unless 5");
        Due.same("a part without labels", Told.rounds(y), "0 0 1 1 2 2");
    }

    private static void undecided() {
        Due.same("attacks itself", Told.labels(Made.of("1 <- :5 unless 1")), "1");
        Due.same("two", Told.labels(Made.of("1 <- :5", "-1 <- :5")), "1 1");
        Due.same("a ring of three", Told.labels(Made.of("1 <- :5 unless 2", "2 <- :5 unless 3",
                "3 <- :5 unless 1")), "1 1 1");
        Due.same("and what they attack", Told.labels(Made.of("1 <- :5", "-1 <- :5",
                "2 <- :5 unless 1", "3 <- :5 unless 2")), "1 1 1 1");
        Due.same("and what is built of them", Told.labels(Made.of("1 <- :5", "-1 <- :5", "2 <- 1 :5",
                "3 <- -1 2 :5")), "1 1 1 1");
    }

    // ---- preferred sets

    private static void peaceful() {
        Due.same("one that attacks itself", Told.sets(Made.of("1 <- :5 unless 1", "2 <- :5")), "1");
        Due.same("only that one", Told.sets(Made.of("1 <- :5 unless 1")), "none");
        Due.same("two", Told.sets(Made.of("1 <- :5", "-1 <- :5")), "0, 1");
        Due.same("one way", Told.sets(Made.of("1 <- :5", "-1 <- :4")), "0");
        Due.same("one way, the lower one", Told.sets(Made.of("1 <- :4", "-1 <- :5")), "1");
        Due.same("through parts", Told.sets(Made.of("1 <- :5", "-1 <- :5", "2 <- 1 :5")), "0 2, 1");
        Due.same("three", Told.sets(Made.of("1 <- :5", "1 <- :5", "-1 <- :5")), "0 1, 2");
        Due.same("a ring, in which all are defended", Told.sets(Made.of("1 <- :5 unless 2",
                "2 <- :5 unless 3", "3 <- :5 unless 1")), "none");
    }

    private static void defended() {
        Due.same("not at all", Told.sets(Made.of("1 <- :5 unless 1", "2 <- :5 unless 1")), "none");
        Due.same("by itself", Told.sets(Made.of("1 <- :5 unless 2", "2 <- :5 unless 1")), "0, 1");
        Due.same("by another one", Told.sets(Made.of("1", "2 <- :5 unless 1", "3 <- :5 unless 2")),
                "0 2");
        Due.same("against one only", Told.sets(Made.of("1 <- :5 unless 2", "2 <- :5 unless 1",
                "2 <- :5 unless 3", "3 <- :5 unless 3")), "1");
        Due.same("against one that attacks itself", Told.sets(Made.of("1 <- :5 unless 2",
                "2 <- :5 unless 2", "-2 <- :5")), "0 2");
        Due.same("a ring of four", Told.sets(Made.of("1 <- :5 unless 2", "2 <- :5 unless 3",
                "3 <- :5 unless 4", "4 <- :5 unless 1")), "0 2, 1 3");
    }

    private static void nothingToAdd() {
        Due.same("no argument", Told.sets(Made.empty()), "none");
        Due.same("all", Told.sets(Made.of("1", "2 <- :5", "-3 <- 1 :5")), "0 1 2");
        Due.same("two at once", Told.sets(Made.of("1 <- :5 unless 3", "2 <- :5 unless 4",
                "3 <- :5 unless 2", "4 <- :5 unless 1", "5 <- :5 unless 5")), "0 1, 2 3");
        Due.same("fewer arguments, and yet nothing to add",
                Told.sets(Made.of("1 <- :5", "-1 <- :5", "2 <- -1 :5", "3 <- -1 :5")), "0, 1 2 3");
    }

    private static void atMost14() {
        Due.same("14", Made.fourteen().preferred(), 16);
        Due.same("14, by all sets", Made.fourteen().preferredByAllSets(), 16);
        Due.refused("preferred of 15", Due.STATE, Made::fifteen, RuleArguments::preferred);
        Due.refused("preferredByAllSets of 15", Due.STATE, Made::fifteen,
                RuleArguments::preferredByAllSets);
        RuleArguments x = Made.fifteen();
        x.turn(8, false);
        Due.same("14 again", x.preferred(), 16);
        x.turn(8, true);
        Due.same("labels are told of 15", Told.labels(x), "2 2 2 2 2 2 1 1 1 1 1 1 1 1 2");
    }

    private static void setOrder() {
        Due.same("lowest first", Told.sets(Made.of("1 <- :5", "2 <- :5", "-1 <- :5", "-2 <- :5")),
                "0 1, 0 3, 1 2, 2 3");
        Due.same("not the larger one first", Told.sets(Made.of("1 <- :5", "-1 <- :5", "2 <- -1 :5")),
                "0, 1 2");
        Due.same("the last arguments", Told.sets(Made.of("3", "4", "5 <- :1", "-5 <- :1")),
                "0 1 2, 0 1 3");
        RuleArguments x = Made.fourteen();
        for (int set = 0; set < 16; set++) {
            for (int pair = 0; pair < 4; pair++) {
                boolean second = (set >> (3 - pair) & 1) != 0;
                Due.same("set " + set, x.isInSet(set, 6 + 2 * pair), !second);
                Due.same("set " + set, x.isInSet(set, 7 + 2 * pair), second);
            }
        }
    }
}
