/** Promises 1 to 9: the sentences that name an edge, each with a test. */
public final class FactsAndRulesEdgesTest {
    public static void main(String[] args) {
        Due.promise("Promise 1");
        Due.sentence("Begins without facts and rules.", FactsAndRulesEdgesTest::begins);

        Due.promise("Promise 2");
        Due.sentence("`literal`: -10 to 10, not 0", FactsAndRulesEdgesTest::addFactTakes);
        Due.sentence("Returns how many facts there are then.", FactsAndRulesEdgesTest::factsThen);
        Due.sentence("Throws `IllegalArgumentException` if literal is out of range",
                FactsAndRulesEdgesTest::addFactOutOfRange);
        Due.sentence("Throws `IllegalStateException` if it is a fact",
                FactsAndRulesEdgesTest::addFactTwice);
        Due.sentence("or its opposite is", FactsAndRulesEdgesTest::addFactOpposite);

        Due.promise("Promise 3");
        Due.sentence("`literal`: -10 to 10, not 0", FactsAndRulesEdgesTest::takeBackTakes);
        Due.sentence("Returns whether it was a fact.", FactsAndRulesEdgesTest::wasFact);
        Due.sentence("Throws `IllegalArgumentException` if literal is out of range",
                FactsAndRulesEdgesTest::takeBackOutOfRange);

        Due.promise("Promise 4");
        Due.sentence("Adds a rule without an exception.", FactsAndRulesEdgesTest::noException);
        Due.sentence("`head`: -10 to 10, not 0", FactsAndRulesEdgesTest::heads);
        Due.sentence("`first`: the first literal of the body, -10 to 10; 0 if it has none",
                FactsAndRulesEdgesTest::firsts);
        Due.sentence("`second`: the second literal, another one than the first, or 0; 0 if the first"
                + " one is", FactsAndRulesEdgesTest::seconds);
        Due.sentence("`third`: the third literal, another one than the first two, or 0; 0 if the"
                + " second one is", FactsAndRulesEdgesTest::thirds);
        Due.sentence("`priority`: 0 to 9", FactsAndRulesEdgesTest::prioritiesOfNewRules);
        Due.sentence("Returns its number.", FactsAndRulesEdgesTest::numbers);
        String outOfRange = "Throws `IllegalArgumentException` if head, first, second, third or"
                + " priority is out of range";
        Due.sentence(outOfRange + ": head", FactsAndRulesEdgesTest::headOutOfRange);
        Due.sentence(outOfRange + ": first", FactsAndRulesEdgesTest::firstOutOfRange);
        Due.sentence(outOfRange + ": second", FactsAndRulesEdgesTest::secondOutOfRange);
        Due.sentence(outOfRange + ": third", FactsAndRulesEdgesTest::thirdOutOfRange);
        Due.sentence(outOfRange + ": priority", FactsAndRulesEdgesTest::priorityOutOfRange);
        Due.sentence("a literal comes twice in the body", FactsAndRulesEdgesTest::literalTwice);
        Due.sentence("or one follows a 0", FactsAndRulesEdgesTest::followsZero);
        Due.sentence("(and nothing else is refused)", FactsAndRulesEdgesTest::everyHeadAndBody);
        Due.sentence("Throws `IllegalStateException` if there are 12 rules",
                FactsAndRulesEdgesTest::rule13);
        Due.sentence("of several exceptions it is the first one of the throws clause",
                FactsAndRulesEdgesTest::wrongRule13);

        Due.promise("Promise 5");
        Due.sentence("`priority`: 0 to 9", FactsAndRulesEdgesTest::setPriorityTakes);
        Due.sentence("Returns the priority before.", FactsAndRulesEdgesTest::priorityBefore);
        Due.sentence("Throws `IndexOutOfBoundsException` if there is no such rule",
                FactsAndRulesEdgesTest::setPriorityNoRule);
        Due.sentence("Throws `IllegalArgumentException` if priority is out of range",
                FactsAndRulesEdgesTest::setPriorityOutOfRange);
        Due.sentence("of several exceptions it is the first one of the throws clause",
                FactsAndRulesEdgesTest::setPriorityBoth);

        Due.promise("Promise 6");
        Due.sentence("`literal`: -10 to 10; 0 for none", FactsAndRulesEdgesTest::setExceptionTakes);
        Due.sentence("Returns the exception before, 0 if there was none.",
                FactsAndRulesEdgesTest::exceptionBefore);
        Due.sentence("Throws `IndexOutOfBoundsException` if there is no such rule",
                FactsAndRulesEdgesTest::setExceptionNoRule);
        Due.sentence("Throws `IllegalArgumentException` if literal is out of range",
                FactsAndRulesEdgesTest::setExceptionOutOfRange);
        Due.sentence("of several exceptions it is the first one of the throws clause",
                FactsAndRulesEdgesTest::setExceptionBoth);

        Due.promise("Promise 7");
        Due.sentence("Turns a rule on or off.", FactsAndRulesEdgesTest::turns);
        Due.sentence("Returns whether it was on.", FactsAndRulesEdgesTest::wasOn);
        Due.sentence("Throws `IndexOutOfBoundsException` if there is no such rule",
                FactsAndRulesEdgesTest::turnNoRule);

        Due.promise("Promise 8");
        Due.sentence("Returns how many facts there are.", FactsAndRulesEdgesTest::howManyFacts);

        Due.promise("Promise 9");
        Due.sentence("Returns how many rules there are, those that are off included.",
                FactsAndRulesEdgesTest::howManyRules);

        Due.finish("facts and rules");
    }

    // ---- promise 1

    private static void begins() {
        RuleArguments x = new RuleArguments();
        Due.same("facts", x.facts(), 0);
        Due.same("rules", x.rules(), 0);
        Due.same("arguments", x.arguments(), 0);
        Made.forEachLiteral(literal -> {
            Due.same("a fact", x.takeBack(literal), false);
            Due.same("holds", x.holds(literal), 0);
            Due.same("reasonFor", x.reasonFor(literal), -1);
        });
        Due.refused("rule 0", Due.INDEX, Made::empty, y -> Due.bit(y.turn(0, true)));
        RuleArguments other = Made.full();
        Due.same("facts of another one", new RuleArguments().facts(), 0);
        Due.same("rules of another one", new RuleArguments().rules(), 0);
        Due.same("the first one still", other.arguments(), 24);
    }

    // ---- promise 2

    private static void addFactTakes() {
        Made.forEachLiteral(literal -> {
            RuleArguments x = new RuleArguments();
            Due.same("addFact " + literal, x.addFact(literal), 1);
            Due.same("it is a fact", x.takeBack(literal), true);
        });
    }

    private static void factsThen() {
        RuleArguments x = new RuleArguments();
        for (int count = 1; count <= 10; count++) {
            Due.same("then", x.addFact(count % 3 == 0 ? count : -count), count);
        }
        x.takeBack(-10);
        x.takeBack(-1);
        Due.same("after two taken back", x.addFact(10), 9);
    }

    private static void addFactOutOfRange() {
        for (Due.Maker state : Made.STATES) {
            Due.refusedForEach("addFact", Due.ARGUMENT, state, Made.NO_LITERALS,
                    RuleArguments::addFact);
        }
    }

    private static void addFactTwice() {
        Made.forEachLiteral(literal -> Due.refused("addFact twice " + literal, Due.STATE,
                () -> Made.of("" + literal), x -> x.addFact(literal)));
        int[] facts = {1, 2, 3, 4, 5, -6, -7, -8, -9, -10};
        Due.refusedForEach("addFact to ten", Due.STATE, Made::full, facts, RuleArguments::addFact);
        Due.refusedForEach("addFact to ten", Due.STATE, Made::tooMany, facts,
                RuleArguments::addFact);
        RuleArguments x = Made.of("1 <- :5");
        Due.same("what a rule says is no fact", x.addFact(1), 1);
        x.takeBack(1);
        Due.same("nor what was one", x.addFact(1), 1);
    }

    private static void addFactOpposite() {
        Made.forEachLiteral(literal -> Due.refused("addFact against " + literal, Due.STATE,
                () -> Made.of("" + literal), x -> x.addFact(-literal)));
        int[] opposites = {-1, -2, -3, -4, -5, 6, 7, 8, 9, 10};
        Due.refusedForEach("addFact to ten", Due.STATE, Made::full, opposites,
                RuleArguments::addFact);
        RuleArguments x = Made.of("1 <- :5");
        Due.same("the opposite of what a rule says", x.addFact(-1), 1);
    }

    // ---- promise 3

    private static void takeBackTakes() {
        Made.forEachLiteral(literal -> {
            RuleArguments x = Made.of("" + literal);
            Due.same("the opposite", x.takeBack(-literal), false);
            Due.same("facts", x.facts(), 1);
            Due.same("the fact", x.takeBack(literal), true);
            Due.same("facts then", x.facts(), 0);
        });
    }

    private static void wasFact() {
        Due.same("of no facts", new RuleArguments().takeBack(1), false);
        RuleArguments x = Made.of("1", "2", "3 <- :5");
        Due.same("what a rule says", x.takeBack(3), false);
        Due.same("its argument", Told.conclusions(x), "1 2 3");
        Due.same("a fact", x.takeBack(1), true);
        Due.same("no more one", x.takeBack(1), false);
        Due.same("the other one", Told.conclusions(x), "2 3");
        Due.same("the last one", x.takeBack(2), true);
        Due.same("added again", x.addFact(1), 1);
        Due.same("taken back again", x.takeBack(1), true);
        RuleArguments full = Made.full();
        for (int fact : new int[] {1, 2, 3, 4, 5, -6, -7, -8, -9, -10}) {
            Due.same("of ten", full.takeBack(fact), true);
        }
        Due.same("none is left", full.facts(), 0);
    }

    private static void takeBackOutOfRange() {
        for (Due.Maker state : Made.STATES) {
            Due.refusedForEach("takeBack", Due.ARGUMENT, state, Made.NO_LITERALS,
                    (x, literal) -> Due.bit(x.takeBack(literal)));
        }
    }

    // ---- promise 4

    private static void noException() {
        RuleArguments x = Made.of("2", "1 <- :5 unless 2");
        for (int number = 1; number < 12; number++) {
            x.addRule(1, 0, 0, 0, 5);
            Due.same("label " + number, x.label(number + 1), 2);
            Due.same("exception of " + number, x.setException(number, 2), 0);
        }
    }

    private static void heads() {
        Made.forEachLiteral(head -> {
            RuleArguments x = new RuleArguments();
            Due.same("addRule", x.addRule(head, 0, 0, 0, 5), 0);
            Due.same("its head", Told.conclusions(x), "" + head);
        });
    }

    private static void firsts() {
        Made.forEachLiteral(first -> {
            RuleArguments x = Made.of("" + first);
            Due.same("addRule", x.addRule(first == 1 ? 2 : 1, first, 0, 0, 5), 0);
            Due.same("its part", Told.parts(x, 1), "0");
            x.takeBack(first);
            Due.same("without it", x.arguments(), 0);
        });
        RuleArguments none = new RuleArguments();
        Due.same("addRule", none.addRule(1, 0, 0, 0, 5), 0);
        Due.same("none", Told.list(none), "1/0/1()");
    }

    private static void seconds() {
        Made.forEachLiteral(second -> {
            int first = second == 1 ? 2 : 1;
            RuleArguments x = Made.of(first + " <- :5", second + " <- :5");
            Due.same("addRule", x.addRule(second == 9 ? 8 : 9, first, second, 0, 5), 2);
            Due.same("its parts", Told.parts(x, 2), "0 1");
            x.turn(1, false);
            Due.same("without it", x.arguments(), 1);
        });
        RuleArguments none = Made.of("1");
        Due.same("addRule", none.addRule(2, 1, 0, 0, 5), 0);
        Due.same("none", Told.list(none), "1/-1/0() 2/0/1(0)");
    }

    private static void thirds() {
        Made.forEachLiteral(third -> {
            int first = third == 1 ? 3 : 1;
            int second = third == 2 ? 3 : 2;
            RuleArguments x = Made.of(first + " <- :5", second + " <- :5", third + " <- :5");
            Due.same("addRule", x.addRule(third == 9 ? 8 : 9, first, second, third, 5), 3);
            Due.same("its parts", Told.parts(x, 3), "0 1 2");
            x.turn(2, false);
            Due.same("without it", x.arguments(), 2);
        });
        RuleArguments none = Made.of("1", "2");
        Due.same("addRule", none.addRule(3, 2, 1, 0, 5), 0);
        Due.same("none", Told.list(none), "1/-1/0() 2/-1/0() 3/0/1(1 0)");
    }

    private static void prioritiesOfNewRules() {
        for (int priority = 0; priority <= 9; priority++) {
            RuleArguments x = new RuleArguments();
            Due.same("addRule", x.addRule(1, 0, 0, 0, priority), 0);
            Due.same("its priority", x.setPriority(0, 5), priority);
        }
    }

    private static void numbers() {
        RuleArguments x = new RuleArguments();
        for (int number = 0; number < 12; number++) {
            Due.same("number", x.addRule(number % 10 + 1, 0, 0, 0, 5), number);
            x.turn(number, number % 2 == 0);
        }
        Due.same("made by", Told.makers(x), "0 2 4 6 8 10");
    }

    private static void refusedRules(String what, int[] numbers, Due.CallWith call) {
        Due.refusedForEach(what, Due.ARGUMENT, Made::empty, numbers, call);
        Due.refusedForEach(what, Due.ARGUMENT, Made::some, numbers, call);
        Due.refusedForEach(what, Due.ARGUMENT, Made::fourteen, numbers, call);
    }

    private static void headOutOfRange() {
        refusedRules("head", Made.NO_LITERALS, (x, head) -> x.addRule(head, 2, 3, 4, 5));
        refusedRules("head without body", Made.NO_LITERALS, (x, head) -> x.addRule(head, 0, 0, 0, 5));
    }

    private static void firstOutOfRange() {
        refusedRules("first", Made.TOO_SMALL_OR_LARGE_LITERALS,
                (x, first) -> x.addRule(1, first, 0, 0, 5));
        refusedRules("first of three", Made.TOO_SMALL_OR_LARGE_LITERALS,
                (x, first) -> x.addRule(1, first, 3, 4, 5));
    }

    private static void secondOutOfRange() {
        refusedRules("second", Made.TOO_SMALL_OR_LARGE_LITERALS,
                (x, second) -> x.addRule(1, 2, second, 0, 5));
        refusedRules("second of three", Made.TOO_SMALL_OR_LARGE_LITERALS,
                (x, second) -> x.addRule(1, 2, second, 4, 5));
    }

    private static void thirdOutOfRange() {
        refusedRules("third", Made.TOO_SMALL_OR_LARGE_LITERALS,
                (x, third) -> x.addRule(1, 2, 3, third, 5));
    }

    private static void priorityOutOfRange() {
        refusedRules("priority", Made.NO_PRIORITIES, (x, priority) -> x.addRule(1, 2, 3, 4, priority));
        refusedRules("priority without body", Made.NO_PRIORITIES,
                (x, priority) -> x.addRule(1, 0, 0, 0, priority));
    }

    private static void literalTwice() {
        int[] literals = {1, -1, 10, -10, 5};
        refusedRules("first and second", literals, (x, twice) -> x.addRule(2, twice, twice, 0, 5));
        refusedRules("of three", literals, (x, twice) -> x.addRule(2, twice, twice, 3, 5));
        refusedRules("first and third", literals, (x, twice) -> x.addRule(2, twice, 3, twice, 5));
        refusedRules("second and third", literals, (x, twice) -> x.addRule(2, 3, twice, twice, 5));
        refusedRules("all", literals, (x, twice) -> x.addRule(2, twice, twice, twice, 5));
    }

    private static void followsZero() {
        int[] literals = {1, -1, 10, -10, 5};
        refusedRules("second after 0", literals, (x, literal) -> x.addRule(2, 0, literal, 0, 5));
        refusedRules("third after 0 0", literals, (x, literal) -> x.addRule(2, 0, 0, literal, 5));
        refusedRules("third after 0", literals, (x, literal) -> x.addRule(2, 3, 0, literal, 5));
        refusedRules("both after 0", literals, (x, literal) -> x.addRule(2, 0, 3, literal, 5));
    }

    /** The head may stand in the body, and so may a literal together with its opposite. */
    private static void everyHeadAndBody() {
        for (int head = -11; head <= 11; head++) {
            for (int first = -11; first <= 11; first++) {
                for (int second = -11; second <= 11; second++) {
                    for (int third = -11; third <= 11; third++) {
                        dueOfRule(head, first, second, third);
                    }
                }
            }
        }
    }

    private static void dueOfRule(int head, int first, int second, int third) {
        boolean inRange = head != 0;
        for (int number : new int[] {head, first, second, third}) {
            inRange = inRange && number >= -10 && number <= 10;
        }
        int length = first == 0 ? 0 : second == 0 ? 1 : third == 0 ? 2 : 3;
        boolean filled = (length > 0 || second == 0) && (length > 1 || third == 0);
        boolean different = length < 2 || first != second;
        different = different && (length < 3 || (third != first && third != second));
        Due.same("addRule " + head + " " + first + " " + second + " " + third,
                Due.outcome(x -> x.addRule(head, first, second, third, 5), new RuleArguments()),
                inRange && filled && different ? "the answer 0" : Due.ARGUMENT);
    }

    private static void rule13() {
        for (Due.Maker state : new Due.Maker[] {Made::full, Made::tooMany}) {
            Due.refused("no body", Due.STATE, state, x -> x.addRule(1, 0, 0, 0, 0));
            Due.refused("a whole body", Due.STATE, state, x -> x.addRule(-10, 10, -9, 9, 9));
        }
        Due.refused("when all are off", Due.STATE, FactsAndRulesEdgesTest::twelveOff,
                x -> x.addRule(1, 0, 0, 0, 0));
    }

    private static RuleArguments twelveOff() {
        RuleArguments x = new RuleArguments();
        for (int number = 0; number < 12; number++) {
            x.turn(x.addRule(1, 0, 0, 0, 5), false);
        }
        return x;
    }

    private static void wrongRule13() {
        for (Due.Maker state : new Due.Maker[] {Made::full, Made::tooMany, () -> twelveOff()}) {
            Due.refusedForEach("head", Due.ARGUMENT, state, Made.NO_LITERALS,
                    (x, head) -> x.addRule(head, 2, 3, 4, 5));
            Due.refusedForEach("first", Due.ARGUMENT, state, Made.TOO_SMALL_OR_LARGE_LITERALS,
                    (x, first) -> x.addRule(1, first, 3, 4, 5));
            Due.refusedForEach("second", Due.ARGUMENT, state, Made.TOO_SMALL_OR_LARGE_LITERALS,
                    (x, second) -> x.addRule(1, 2, second, 4, 5));
            Due.refusedForEach("third", Due.ARGUMENT, state, Made.TOO_SMALL_OR_LARGE_LITERALS,
                    (x, third) -> x.addRule(1, 2, 3, third, 5));
            Due.refusedForEach("priority", Due.ARGUMENT, state, Made.NO_PRIORITIES,
                    (x, priority) -> x.addRule(1, 2, 3, 4, priority));
            Due.refused("twice", Due.ARGUMENT, state, x -> x.addRule(1, 2, 2, 0, 5));
            Due.refused("first as third", Due.ARGUMENT, state, x -> x.addRule(1, 2, 3, 2, 5));
            Due.refused("second as third", Due.ARGUMENT, state, x -> x.addRule(1, 2, 3, 3, 5));
            Due.refused("second after 0", Due.ARGUMENT, state, x -> x.addRule(1, 0, 2, 0, 5));
            Due.refused("third after 0", Due.ARGUMENT, state, x -> x.addRule(1, 2, 0, 3, 5));
        }
    }

    // ---- promise 5

    private static void setPriorityTakes() {
        for (int priority = 0; priority <= 9; priority++) {
            RuleArguments x = Made.of("1 <- :" + (9 - priority), "-1 <- :5");
            Due.same("setPriority", x.setPriority(0, priority), 9 - priority);
            Due.same("against 5", x.attacks(0, 1), priority >= 5);
            Due.same("5 against it", x.attacks(1, 0), priority <= 5);
        }
    }

    private static void priorityBefore() {
        RuleArguments x = new RuleArguments();
        for (int number = 0; number < 12; number++) {
            x.addRule(1, 0, 0, 0, number % 10);
        }
        for (int number = 0; number < 12; number++) {
            Due.same("of rule " + number, x.setPriority(number, 9 - number % 10), number % 10);
        }
        for (int number = 0; number < 12; number++) {
            Due.same("then", x.setPriority(number, 9 - number % 10), 9 - number % 10);
        }
        x.turn(3, false);
        Due.same("of one that is off", x.setPriority(3, 0), 6);
        Due.same("then", x.setPriority(3, 1), 0);
        x.turn(3, true);
        Due.same("and is on again", x.setPriority(3, 0), 1);
    }

    private static void setPriorityNoRule() {
        Due.refusedForEach("of none", Due.INDEX, Made::empty, Made.noRules(0),
                (x, rule) -> x.setPriority(rule, 5));
        Due.refusedForEach("of seven", Due.INDEX, Made::some, Made.noRules(7),
                (x, rule) -> x.setPriority(rule, 5));
        Due.refusedForEach("of twelve", Due.INDEX, Made::full, Made.noRules(12),
                (x, rule) -> x.setPriority(rule, 5));
        Due.refusedForEach("of twelve", Due.INDEX, Made::tooMany, Made.noRules(12),
                (x, rule) -> x.setPriority(rule, 5));
    }

    private static void setPriorityOutOfRange() {
        for (int number : new int[] {0, 6}) {
            Due.refusedForEach("of rule " + number, Due.ARGUMENT, Made::some, Made.NO_PRIORITIES,
                    (x, priority) -> x.setPriority(number, priority));
        }
        Due.refusedForEach("of rule 11", Due.ARGUMENT, Made::tooMany, Made.NO_PRIORITIES,
                (x, priority) -> x.setPriority(11, priority));
    }

    private static void setPriorityBoth() {
        for (int priority : Made.NO_PRIORITIES) {
            Due.refusedForEach("of none, to " + priority, Due.INDEX, Made::empty, Made.noRules(0),
                    (x, rule) -> x.setPriority(rule, priority));
            Due.refusedForEach("of twelve, to " + priority, Due.INDEX, Made::full, Made.noRules(12),
                    (x, rule) -> x.setPriority(rule, priority));
        }
    }

    // ---- promise 6

    private static void setExceptionTakes() {
        Made.forEachLiteral(literal -> {
            int head = literal == 1 || literal == -1 ? 2 : 1;
            RuleArguments x = Made.of(head + " <- :9", literal + " <- :0");
            Due.same("setException", x.setException(0, literal), 0);
            Due.same("attacks", Told.attackersOf(x, 0) + "," + Told.attackersOf(x, 1), "1,");
            Due.same("setException 0", x.setException(0, 0), literal);
            Due.same("attacks no more", Told.attackersOf(x, 0), "");
        });
    }

    private static void exceptionBefore() {
        RuleArguments x = new RuleArguments();
        for (int number = 0; number < 12; number++) {
            x.addRule(1, 0, 0, 0, 5);
        }
        for (int number = 0; number < 12; number++) {
            Due.same("none", x.setException(number, 10 - number), 0);
        }
        for (int number = 0; number < 12; number++) {
            Due.same("of rule " + number, x.setException(number, 0), 10 - number);
            Due.same("none again", x.setException(number, -10), 0);
            Due.same("the lowest", x.setException(number, -10), -10);
        }
        x.turn(3, false);
        Due.same("of one that is off", x.setException(3, 0), -10);
        x.turn(3, true);
        Due.same("and is on again", x.setException(3, 10), 0);
    }

    private static void setExceptionNoRule() {
        Due.refusedForEach("of none", Due.INDEX, Made::empty, Made.noRules(0),
                (x, rule) -> x.setException(rule, 5));
        Due.refusedForEach("of seven", Due.INDEX, Made::some, Made.noRules(7),
                (x, rule) -> x.setException(rule, 0));
        Due.refusedForEach("of twelve", Due.INDEX, Made::full, Made.noRules(12),
                (x, rule) -> x.setException(rule, -5));
        Due.refusedForEach("of twelve", Due.INDEX, Made::tooMany, Made.noRules(12),
                (x, rule) -> x.setException(rule, 5));
    }

    private static void setExceptionOutOfRange() {
        for (int number : new int[] {0, 4, 6}) {
            Due.refusedForEach("of rule " + number, Due.ARGUMENT, Made::some,
                    Made.TOO_SMALL_OR_LARGE_LITERALS,
                    (x, literal) -> x.setException(number, literal));
        }
        Due.refusedForEach("of rule 11", Due.ARGUMENT, Made::tooMany,
                Made.TOO_SMALL_OR_LARGE_LITERALS, (x, literal) -> x.setException(11, literal));
    }

    private static void setExceptionBoth() {
        for (int literal : Made.TOO_SMALL_OR_LARGE_LITERALS) {
            Due.refusedForEach("of none, to " + literal, Due.INDEX, Made::empty, Made.noRules(0),
                    (x, rule) -> x.setException(rule, literal));
            Due.refusedForEach("of twelve, to " + literal, Due.INDEX, Made::full, Made.noRules(12),
                    (x, rule) -> x.setException(rule, literal));
        }
    }

    // ---- promise 7

    private static void turns() {
        RuleArguments x = new RuleArguments();
        for (int number = 0; number < 12; number++) {
            x.addRule(number % 10 + 1, 0, 0, 0, 5);
        }
        x.setException(5, -3);
        x.turn(0, false);
        x.turn(5, false);
        x.turn(11, false);
        Due.same("the first, the last and one between off", Told.makers(x), "1 2 3 4 6 7 8 9 10");
        x.turn(5, false);
        x.turn(6, true);
        Due.same("turned to what they are", Told.makers(x), "1 2 3 4 6 7 8 9 10");
        x.turn(0, true);
        x.turn(5, true);
        x.turn(11, true);
        Due.same("on again", Told.makers(x), "0 1 2 3 4 5 6 7 8 9 10 11");
        Due.same("its exception is kept", x.setException(5, 0), -3);
        Due.same("its priority is kept", x.setPriority(5, 0), 5);
        for (int number = 0; number < 12; number++) {
            x.turn(number, false);
        }
        Due.same("all off", x.arguments(), 0);
        Due.same("from too many", Made.tooMany().turn(11, false), true);
    }

    private static void wasOn() {
        RuleArguments x = Made.full();
        for (int number = 0; number < 12; number++) {
            Due.same("on to on", x.turn(number, true), true);
            Due.same("on to off", x.turn(number, false), true);
            Due.same("off to off", x.turn(number, false), false);
            Due.same("off to on", x.turn(number, true), false);
            Due.same("on", x.turn(number, true), true);
        }
        Due.same("as before", Told.list(x), Told.list(Made.full()));
    }

    private static void turnNoRule() {
        for (boolean on : new boolean[] {true, false}) {
            Due.refusedForEach("of none", Due.INDEX, Made::empty, Made.noRules(0),
                    (x, rule) -> Due.bit(x.turn(rule, on)));
            Due.refusedForEach("of seven", Due.INDEX, Made::some, Made.noRules(7),
                    (x, rule) -> Due.bit(x.turn(rule, on)));
            Due.refusedForEach("of twelve", Due.INDEX, Made::full, Made.noRules(12),
                    (x, rule) -> Due.bit(x.turn(rule, on)));
            Due.refusedForEach("of twelve", Due.INDEX, Made::tooMany, Made.noRules(12),
                    (x, rule) -> Due.bit(x.turn(rule, on)));
        }
    }

    // ---- promises 8 and 9

    private static void howManyFacts() {
        RuleArguments x = Made.of("1 <- :5");
        Due.same("none", x.facts(), 0);
        for (int fact = 1; fact <= 10; fact++) {
            x.addFact(-fact);
            Due.same("added", x.facts(), fact);
        }
        Due.same("full", Made.full().facts(), 10);
        Due.same("too many arguments", Made.tooMany().facts(), 10);
        for (int fact = 1; fact <= 10; fact++) {
            x.takeBack(fact);
            Due.same("the opposite taken back", x.facts(), 11 - fact);
            x.takeBack(-fact);
            Due.same("taken back", x.facts(), 10 - fact);
            x.takeBack(-fact);
            Due.same("taken back twice", x.facts(), 10 - fact);
        }
    }

    private static void howManyRules() {
        RuleArguments x = Made.of("1");
        Due.same("none", x.rules(), 0);
        for (int count = 1; count <= 12; count++) {
            x.addRule(2, 3, 0, 0, 5);
            Due.same("added", x.rules(), count);
        }
        for (int number = 0; number < 12; number++) {
            x.turn(number, false);
            Due.same("off", x.rules(), 12);
        }
        Due.same("full", Made.full().rules(), 12);
        Due.same("too many arguments", Made.tooMany().rules(), 12);
    }
}
