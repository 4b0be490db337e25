import java.util.function.IntSupplier;

/** Promise by promise: ordinary inputs, the edges that the document names, and wrong inputs. */
public final class PromisesTest {
    private static final String ARGUMENT = "IllegalArgumentException";
    private static final String STATE = "IllegalStateException";
    private static final String INDEX = "IndexOutOfBoundsException";
    private static final int[] NO_LITERALS =
            {0, 11, -11, 12, 100, Integer.MAX_VALUE, Integer.MIN_VALUE};
    private static final int[] NO_LITERALS_BUT_0 =
            {11, -11, 12, 100, Integer.MAX_VALUE, Integer.MIN_VALUE};
    private static final int[] NO_PRIORITIES = {-1, 10, Integer.MAX_VALUE, Integer.MIN_VALUE};

    private static int wrong = 0;
    private static String promise = "";

    public static void main(String[] args) {
        newObject();
        addFact();
        takeBack();
        addRule();
        setPriority();
        setException();
        turn();
        counts();
        arguments();
        tooManyArguments();
        argumentOrder();
        argumentFace();
        noArgumentOfItsOwnConclusion();
        attacks();
        label();
        round();
        holds();
        reasonFor();
        reasonAgainst();
        preferred();
        setOrder();
        fourteenArguments();
        unlucky();
        nothingChangesOnThrow();
        System.out.println(wrong == 0 ? "promises: as due" : "promises: " + wrong + " wrong");
        if (wrong != 0) {
            System.exit(1);
        }
    }

    private static void due(String call, int got, int want) {
        if (got != want) {
            wrong++;
            System.out.println(promise + ": " + call + " answered " + got + ", due is " + want);
        }
    }

    private static void due(String call, boolean got, boolean want) {
        due(call, got ? 1 : 0, want ? 1 : 0);
    }

    private static void dueThrow(String call, String want, IntSupplier action) {
        String got;
        try {
            got = "the answer " + action.getAsInt();
        } catch (RuntimeException e) {
            got = e.getClass().getSimpleName();
        }
        if (!got.equals(want)) {
            wrong++;
            System.out.println(promise + ": " + call + " gave " + got + ", due is " + want);
        }
    }

    private static int bit(boolean answer) {
        return answer ? 1 : 0;
    }

    private static void newObject() {
        promise = "1 new object";
        RuleArguments x = new RuleArguments();
        due("facts", x.facts(), 0);
        due("rules", x.rules(), 0);
        due("arguments", x.arguments(), 0);
        due("preferred", x.preferred(), 1);
        due("preferredByAllSets", x.preferredByAllSets(), 1);
        for (int literal = 1; literal <= 10; literal++) {
            due("holds", x.holds(literal), 0);
            due("setsFor", x.setsFor(-literal), 0);
        }
        RuleArguments y = new RuleArguments();
        y.addFact(1);
        due("another object", x.facts(), 0);
    }

    private static void addFact() {
        promise = "2 addFact";
        RuleArguments x = new RuleArguments();
        for (int literal : NO_LITERALS) {
            dueThrow("addFact " + literal, ARGUMENT, () -> x.addFact(literal));
        }
        due("none added", x.facts(), 0);
        due("addFact 10", x.addFact(10), 1);
        due("addFact -1", x.addFact(-1), 2);
        dueThrow("twice", STATE, () -> x.addFact(10));
        dueThrow("opposite", STATE, () -> x.addFact(-10));
        dueThrow("opposite of a negative one", STATE, () -> x.addFact(1));
        due("still two", x.facts(), 2);
        for (int literal = 2; literal <= 9; literal++) {
            due("addFact", x.addFact(literal % 2 == 0 ? literal : -literal), literal + 1);
        }
        due("ten facts", x.arguments(), 10);
        due("lowest", x.conclusion(0), -9);
        due("highest", x.conclusion(9), 10);
    }

    private static void takeBack() {
        promise = "3 takeBack";
        RuleArguments x = new RuleArguments();
        for (int literal : NO_LITERALS) {
            dueThrow("takeBack " + literal, ARGUMENT, () -> bit(x.takeBack(literal)));
        }
        x.addFact(5);
        x.addFact(-6);
        due("opposite", x.takeBack(-5), false);
        due("no fact", x.takeBack(10), false);
        due("facts", x.facts(), 2);
        due("a fact", x.takeBack(5), true);
        due("twice", x.takeBack(5), false);
        due("facts then", x.facts(), 1);
        due("arguments", x.arguments(), 1);
        due("conclusion", x.conclusion(0), -6);
        due("opposite can be added", x.addFact(-5), 2);
    }

    private static void addRule() {
        promise = "4 addRule";
        RuleArguments x = new RuleArguments();
        x.addFact(1);
        for (int literal : NO_LITERALS) {
            dueThrow("head " + literal, ARGUMENT, () -> x.addRule(literal, 1, 2, 3, 5));
        }
        for (int literal : NO_LITERALS_BUT_0) {
            dueThrow("first " + literal, ARGUMENT, () -> x.addRule(1, literal, 0, 0, 5));
            dueThrow("second " + literal, ARGUMENT, () -> x.addRule(1, 1, literal, 0, 5));
            dueThrow("third " + literal, ARGUMENT, () -> x.addRule(1, 1, 2, literal, 5));
        }
        for (int priority : NO_PRIORITIES) {
            dueThrow("priority " + priority, ARGUMENT, () -> x.addRule(1, 2, 3, 4, priority));
        }
        dueThrow("first is second", ARGUMENT, () -> x.addRule(4, 1, 1, 0, 5));
        dueThrow("first is third", ARGUMENT, () -> x.addRule(4, 1, 2, 1, 5));
        dueThrow("second is third", ARGUMENT, () -> x.addRule(4, 1, 2, 2, 5));
        dueThrow("second after 0", ARGUMENT, () -> x.addRule(4, 0, 2, 0, 5));
        dueThrow("third after 0", ARGUMENT, () -> x.addRule(4, 1, 0, 2, 5));
        dueThrow("third after two 0", ARGUMENT, () -> x.addRule(4, 0, 0, 2, 5));
        dueThrow("all after 0", ARGUMENT, () -> x.addRule(4, 0, 1, 2, 5));
        due("none added", x.rules(), 0);
        due("no body", x.addRule(-10, 0, 0, 0, 0), 0);
        due("one literal", x.addRule(10, 1, 0, 0, 9), 1);
        due("two, opposite ones", x.addRule(9, 1, -1, 0, 3), 2);
        due("three", x.addRule(9, -10, 10, 1, 3), 3);
        due("head in body", x.addRule(1, 1, 0, 0, 3), 4);
        due("same rule again", x.addRule(1, 1, 0, 0, 3), 5);
        due("arguments", x.arguments(), 4);
        due("on at first", x.turn(1, true), true);
        due("no exception at first", x.setException(1, 0), 0);
        due("its priority", x.setPriority(1, 9), 9);
        for (int number = 6; number < 12; number++) {
            due("number", x.addRule(8, 7, 0, 0, 1), number);
        }
        dueThrow("a 13th", STATE, () -> x.addRule(8, 7, 0, 0, 1));
        dueThrow("a wrong 13th", ARGUMENT, () -> x.addRule(8, 7, 0, 0, 10));
        dueThrow("a wrong head of a 13th", ARGUMENT, () -> x.addRule(0, 7, 0, 0, 1));
        dueThrow("a wrong body of a 13th", ARGUMENT, () -> x.addRule(8, 7, 7, 0, 1));
        due("rules", x.rules(), 12);
    }

    private static void setPriority() {
        promise = "5 setPriority";
        RuleArguments x = new RuleArguments();
        dueThrow("no rule", INDEX, () -> x.setPriority(0, 5));
        x.addRule(1, 0, 0, 0, 4);
        x.addRule(-1, 0, 0, 0, 5);
        dueThrow("rule -1", INDEX, () -> x.setPriority(-1, 5));
        dueThrow("rule 2", INDEX, () -> x.setPriority(2, 5));
        dueThrow("rule MIN", INDEX, () -> x.setPriority(Integer.MIN_VALUE, 5));
        dueThrow("rule MAX", INDEX, () -> x.setPriority(Integer.MAX_VALUE, 5));
        dueThrow("rule 2, priority 10", INDEX, () -> x.setPriority(2, 10));
        for (int priority : NO_PRIORITIES) {
            dueThrow("priority " + priority, ARGUMENT, () -> x.setPriority(0, priority));
        }
        due("before", x.attacks(0, 1), false);
        due("setPriority", x.setPriority(0, 5), 4);
        due("as strong", x.attacks(0, 1), true);
        due("as strong, back", x.attacks(1, 0), true);
        due("setPriority 9", x.setPriority(0, 9), 5);
        due("weaker", x.attacks(1, 0), false);
        due("setPriority 0", x.setPriority(0, 0), 9);
        due("weaker then", x.attacks(0, 1), false);
        due("last", x.setPriority(0, 0), 0);
    }

    private static void setException() {
        promise = "6 setException";
        RuleArguments x = new RuleArguments();
        dueThrow("no rule", INDEX, () -> x.setException(0, 5));
        x.addRule(1, 0, 0, 0, 9);
        x.addRule(2, 0, 0, 0, 0);
        dueThrow("rule -1", INDEX, () -> x.setException(-1, 5));
        dueThrow("rule 2", INDEX, () -> x.setException(2, 5));
        dueThrow("rule 2, literal 11", INDEX, () -> x.setException(2, 11));
        for (int literal : NO_LITERALS_BUT_0) {
            dueThrow("literal " + literal, ARGUMENT, () -> x.setException(0, literal));
        }
        due("before", x.attacks(1, 0), false);
        due("setException", x.setException(0, 2), 0);
        due("whatever the strengths", x.attacks(1, 0), true);
        due("one way", x.attacks(0, 1), false);
        due("setException -10", x.setException(0, -10), 2);
        due("no more", x.attacks(1, 0), false);
        due("own conclusion", x.setException(0, 1), -10);
        due("attacks itself", x.attacks(0, 0), true);
        due("none", x.setException(0, 0), 1);
        due("still none", x.setException(0, 10), 0);
        due("no attack", x.attacks(0, 0), false);
    }

    private static void turn() {
        promise = "7 turn";
        RuleArguments x = new RuleArguments();
        dueThrow("no rule", INDEX, () -> bit(x.turn(0, true)));
        x.addRule(1, 0, 0, 0, 9);
        dueThrow("rule -1", INDEX, () -> bit(x.turn(-1, false)));
        dueThrow("rule 1", INDEX, () -> bit(x.turn(1, false)));
        due("on to on", x.turn(0, true), true);
        due("arguments", x.arguments(), 1);
        due("on to off", x.turn(0, false), true);
        due("no argument", x.arguments(), 0);
        due("rules that are off count", x.rules(), 1);
        due("off to off", x.turn(0, false), false);
        due("off to on", x.turn(0, true), false);
        due("arguments again", x.arguments(), 1);
    }

    private static void counts() {
        promise = "8 facts, 9 rules";
        RuleArguments x = new RuleArguments();
        for (int i = 1; i <= 10; i++) {
            x.addFact(-i);
            due("facts", x.facts(), i);
            x.addRule(i, i, 0, 0, 0);
            due("rules", x.rules(), i);
        }
        x.takeBack(-4);
        x.turn(3, false);
        due("facts", x.facts(), 9);
        due("rules", x.rules(), 10);
    }

    private static void arguments() {
        promise = "10 arguments";
        RuleArguments x = new RuleArguments();
        x.addFact(1);
        x.addFact(2);
        due("facts", x.arguments(), 2);
        x.addRule(3, 1, 0, 0, 1);
        x.addRule(3, 2, 0, 0, 1);
        x.addRule(4, 3, 1, 0, 1);
        due("two ways to 3", x.arguments(), 6);
        x.addRule(5, 3, 4, 0, 1);
        due("each with each", x.arguments(), 10);
        x.addRule(6, 7, 0, 0, 1);
        due("without its body", x.arguments(), 10);
        x.takeBack(2);
        due("one way", x.arguments(), 4);
    }

    private static RuleArguments threeTimesThree() {
        RuleArguments x = new RuleArguments();
        for (int head = 1; head <= 3; head++) {
            x.addRule(head, 0, 0, 0, 1);
            x.addRule(head, 0, 0, 0, 1);
        }
        return x;
    }

    private static void tooManyArguments() {
        promise = "10 too many arguments";
        RuleArguments x = threeTimesThree();
        due("six", x.arguments(), 6);
        x.addRule(4, 1, 2, 3, 1);
        due("and eight", x.arguments(), 14);
        x.addRule(5, 1, 2, 3, 1);
        due("and eight more", x.arguments(), 22);
        x.addFact(9);
        x.addFact(10);
        due("24", x.arguments(), 24);
        due("last one", x.conclusion(23), 5);
        due("label of the last one", x.label(23), 2);
        x.addFact(8);
        due("25", x.arguments(), -1);
        demandAll(x, STATE, STATE);
        x.takeBack(9);
        due("24 again", x.arguments(), 24);
        due("label", x.label(23), 2);
        x.addRule(6, 5, 4, 0, 1);
        due("far more", x.arguments(), -1);
        x.turn(7, false);
        due("fewer, the last rule goes without", x.arguments(), 16);
        promise = "21 preferred, more than 14";
        demandAll(x, "", STATE);
    }

    /** Calls that are due to throw: of the questions, and of those of the preferred sets. */
    private static void demandAll(RuleArguments x, String questions, String sets) {
        if (!questions.isEmpty()) {
            for (int argument : new int[] {0, 23, -1, 24, 25}) {
                dueThrow("conclusion", questions, () -> x.conclusion(argument));
                dueThrow("madeBy", questions, () -> x.madeBy(argument));
                dueThrow("part", questions, () -> x.part(argument, 0));
                dueThrow("depth", questions, () -> x.depth(argument));
                dueThrow("attacks", questions, () -> bit(x.attacks(argument, 0)));
                dueThrow("attacks it", questions, () -> bit(x.attacks(0, argument)));
                dueThrow("label", questions, () -> x.label(argument));
                dueThrow("round", questions, () -> x.round(argument));
                dueThrow("reasonAgainst", questions, () -> x.reasonAgainst(argument));
            }
            dueThrow("holds", questions, () -> x.holds(1));
            dueThrow("reasonFor", questions, () -> x.reasonFor(-1));
            for (int literal : NO_LITERALS) {
                dueThrow("holds", ARGUMENT, () -> x.holds(literal));
                dueThrow("reasonFor", ARGUMENT, () -> x.reasonFor(literal));
            }
        }
        dueThrow("preferred", sets, x::preferred);
        dueThrow("preferredByAllSets", sets, x::preferredByAllSets);
        dueThrow("isInSet", sets, () -> bit(x.isInSet(0, 0)));
        dueThrow("isInSet, no such", sets, () -> bit(x.isInSet(-1, -1)));
        dueThrow("setsFor", sets, () -> x.setsFor(1));
        for (int literal : NO_LITERALS) {
            dueThrow("setsFor", ARGUMENT, () -> x.setsFor(literal));
        }
    }

    private static void dueArgument(RuleArguments x, int number, int... shape) {
        due("conclusion " + number, x.conclusion(number), shape[0]);
        due("madeBy " + number, x.madeBy(number), shape[1]);
        due("depth " + number, x.depth(number), shape[2]);
        int parts = shape.length - 3;
        for (int place = 0; place < parts; place++) {
            due("part " + number + " " + place, x.part(number, place), shape[place + 3]);
        }
        dueThrow("part behind the last", INDEX, () -> x.part(number, parts));
        dueThrow("part 3", INDEX, () -> x.part(number, 3));
        dueThrow("part -1", INDEX, () -> x.part(number, -1));
        dueThrow("part MAX", INDEX, () -> x.part(number, Integer.MAX_VALUE));
        dueThrow("part MIN", INDEX, () -> x.part(number, Integer.MIN_VALUE));
    }

    private static void argumentOrder() {
        promise = "11 to 14 order of arguments";
        RuleArguments x = new RuleArguments();
        x.addRule(7, 5, 4, -2, 1);
        x.addRule(4, 0, 0, 0, 1);
        x.addRule(5, -2, 0, 0, 1);
        x.addRule(4, -2, 0, 0, 1);
        x.addRule(5, 4, 0, 0, 1);
        x.addFact(3);
        x.addFact(-2);
        due("arguments", x.arguments(), 13);
        dueArgument(x, 0, -2, -1, 0);
        dueArgument(x, 1, 3, -1, 0);
        dueArgument(x, 2, 4, 1, 1);
        dueArgument(x, 3, 5, 2, 1, 0);
        dueArgument(x, 4, 4, 3, 1, 0);
        dueArgument(x, 5, 7, 0, 2, 3, 2, 0);
        dueArgument(x, 6, 7, 0, 2, 3, 4, 0);
        dueArgument(x, 7, 5, 4, 2, 2);
        dueArgument(x, 8, 5, 4, 2, 4);
        dueArgument(x, 9, 7, 0, 3, 7, 2, 0);
        dueArgument(x, 10, 7, 0, 3, 7, 4, 0);
        dueArgument(x, 11, 7, 0, 3, 8, 2, 0);
        dueArgument(x, 12, 7, 0, 3, 8, 4, 0);
    }

    private static void argumentFace() {
        promise = "11 to 17, 20: no such argument";
        RuleArguments x = new RuleArguments();
        x.addFact(1);
        x.addRule(2, 1, 0, 0, 3);
        for (int argument : new int[] {-1, 2, 24, 100, Integer.MAX_VALUE, Integer.MIN_VALUE}) {
            dueThrow("conclusion", INDEX, () -> x.conclusion(argument));
            dueThrow("madeBy", INDEX, () -> x.madeBy(argument));
            dueThrow("part", INDEX, () -> x.part(argument, 0));
            dueThrow("depth", INDEX, () -> x.depth(argument));
            dueThrow("attacks", INDEX, () -> bit(x.attacks(argument, 0)));
            dueThrow("attacks it", INDEX, () -> bit(x.attacks(0, argument)));
            dueThrow("label", INDEX, () -> x.label(argument));
            dueThrow("round", INDEX, () -> x.round(argument));
            dueThrow("reasonAgainst", INDEX, () -> x.reasonAgainst(argument));
            dueThrow("isInSet", INDEX, () -> bit(x.isInSet(0, argument)));
            dueThrow("isInSet, set", INDEX, () -> bit(x.isInSet(argument == 2 ? 1 : argument, 0)));
        }
        dueThrow("part of a fact", INDEX, () -> x.part(0, 0));
    }

    private static void noArgumentOfItsOwnConclusion() {
        promise = "10 no argument of its own conclusion";
        RuleArguments x = new RuleArguments();
        x.addRule(1, 2, 0, 0, 1);
        x.addRule(2, 1, 0, 0, 1);
        due("a ring hangs in the air", x.arguments(), 0);
        x.addFact(1);
        due("fact 1, 2 out of it", x.arguments(), 2);
        x.addRule(1, 1, 0, 0, 1);
        due("head in body", x.arguments(), 2);
        x.addRule(-1, 2, 0, 0, 1);
        due("the opposite may be", x.arguments(), 3);
        x.addRule(3, 2, -1, 0, 1);
        x.addRule(1, 3, 0, 0, 1);
        due("deep down", x.arguments(), 4);
        due("depth", x.depth(3), 3);
        x.addFact(2);
        due("2 as a fact, 1 out of it", x.conclusion(2), 1);
        for (int place = 0; place < 3; place++) {
            dueOwnConclusionIn(place);
        }
        RuleArguments y = new RuleArguments();
        y.addRule(1, 0, 0, 0, 5);
        for (int i = 1; i < 10; i++) {
            y.addRule(i + 1, i, 0, 0, 5);
        }
        y.addRule(-1, 10, 0, 0, 5);
        y.addRule(-2, -1, 0, 0, 5);
        due("a chain of all rules", y.arguments(), 12);
        due("its depth", y.depth(11), 12);
        due("its end", y.conclusion(11), -2);
    }

    /** The head is a conclusion below the part at a place, and below no other part. */
    private static void dueOwnConclusionIn(int place) {
        RuleArguments x = new RuleArguments();
        x.addFact(1);
        x.addFact(7);
        x.addFact(8);
        x.addRule(2, 1, 0, 0, 1);
        x.addRule(3, 2, 0, 0, 1);
        int[] body = {7, 8, 8};
        body[1] = place == 1 ? 3 : body[1];
        body[0] = place == 0 ? 3 : body[0];
        body[2] = place == 2 ? 3 : place == 1 ? 8 : 7;
        x.addRule(1, body[0], body[1], body[2], 1);
        x.addRule(4, body[0], body[1], body[2], 1);
        x.addRule(1, 4, 0, 0, 1);
        due("place " + place, x.arguments(), 6);
        due("place " + place + ", its last one", x.conclusion(5), 4);
    }

    private static void attacks() {
        promise = "15 attacks";
        RuleArguments x = new RuleArguments();
        x.addFact(1);
        x.addRule(-1, 0, 0, 0, 9);
        x.addRule(2, -1, 0, 0, 9);
        x.addRule(3, 2, 1, 0, 4);
        x.addRule(-2, 0, 0, 0, 8);
        x.addRule(-3, 0, 0, 0, 4);
        // 0: 1, 1: -1, 2: -2, 3: -3, 4: 2 of 1, 5: 3 of 4 and 0
        due("arguments", x.arguments(), 6);
        due("fact on rule", x.attacks(0, 1), true);
        due("a fact is not attacked", x.attacks(1, 0), false);
        due("through a part", x.attacks(0, 4), true);
        due("through a part of a part, and its own part", x.attacks(0, 5), true);
        due("weaker", x.attacks(2, 4), false);
        due("stronger", x.attacks(4, 2), true);
        due("on a part of it", x.attacks(2, 5), false);
        due("built of is not attacked by", x.attacks(5, 2), false);
        due("as strong", x.attacks(3, 5), true);
        due("as strong, back", x.attacks(5, 3), true);
        due("a fact not through what is built of it", x.attacks(1, 5), false);
        due("same conclusion", x.attacks(0, 0), false);
        x.setPriority(3, 9);
        due("as strong on the part", x.attacks(2, 4), true);
        due("and on the whole", x.attacks(2, 5), true);
        x.setException(1, -3);
        due("exception of a part's rule", x.attacks(3, 4), true);
        due("exception of a part's part's rule", x.attacks(3, 5), true);
        due("not on others", x.attacks(3, 2), false);
        x.setException(2, 3);
        due("itself by its own exception", x.attacks(5, 5), true);
        x.setException(2, 0);
        x.setException(1, 3);
        due("itself by its part's exception", x.attacks(5, 5), true);
        due("not its part's part", x.attacks(5, 1), false);
        due("the exception of a fact's opposite", x.attacks(5, 0), false);
        RuleArguments y = new RuleArguments();
        y.addRule(1, 0, 0, 0, 5);
        y.addRule(-1, 1, 0, 0, 5);
        due("itself by its part", y.attacks(1, 1), true);
        due("its part", y.attacks(1, 0), true);
        due("part on whole", y.attacks(0, 1), true);
        due("part on part", y.attacks(0, 0), false);
        y.setPriority(1, 4);
        due("not itself when weaker", y.attacks(1, 1), false);
        due("part on whole then", y.attacks(0, 1), true);
    }

    /** A chain: 1, then -1 against 1 is weaker; penguins: 1 bird, 2 penguin, 3 flies. */
    private static RuleArguments penguin() {
        RuleArguments x = new RuleArguments();
        x.addFact(2);
        x.addRule(1, 2, 0, 0, 9);
        x.addRule(3, 1, 0, 0, 3);
        x.addRule(-3, 2, 0, 0, 6);
        x.addRule(4, 3, 0, 0, 2);
        x.addRule(-4, 0, 0, 0, 0);
        return x;
    }

    private static void label() {
        promise = "16 label";
        RuleArguments x = penguin();
        // 0: 2, 1: 1 bird, 2: -3, 3: -4, 4: 3 flies, 5: 4 of flies
        due("arguments", x.arguments(), 6);
        due("fact", x.label(0), 2);
        due("bird", x.label(1), 2);
        due("does not fly", x.label(2), 2);
        due("flies", x.label(4), 0);
        due("built of flies", x.label(5), 0);
        due("attacked by an out one", x.label(3), 2);
        x.setPriority(1, 6);
        due("undecided", x.label(2), 1);
        due("undecided too", x.label(4), 1);
        due("undecided above", x.label(5), 1);
        due("undecided against", x.label(3), 1);
        RuleArguments y = new RuleArguments();
        y.addRule(1, 0, 0, 0, 0);
        y.setException(0, 1);
        due("attacks itself", y.label(0), 1);
        y.addFact(-1);
        due("attacks itself and out", y.label(1), 0);
    }

    private static void round() {
        promise = "17 round";
        RuleArguments x = penguin();
        due("fact", x.round(0), 1);
        due("bird", x.round(1), 1);
        due("does not fly", x.round(2), 1);
        due("out in the round of its attacker", x.round(4), 1);
        due("out too", x.round(5), 1);
        due("in one round later", x.round(3), 2);
        x.setPriority(1, 6);
        due("undecided", x.round(2), 0);
        due("fact still", x.round(0), 1);
        // Exceptions in a chain: 1, 2 unless 1, 3 unless 2, ... : in, out, in, out, ...
        RuleArguments y = new RuleArguments();
        for (int i = 1; i <= 10; i++) {
            y.addRule(i, 0, 0, 0, 5);
            y.setException(i - 1, i - 1);
        }
        for (int i = 0; i < 10; i++) {
            due("label " + i, y.label(i), i % 2 == 0 ? 2 : 0);
            due("round " + i, y.round(i), i / 2 + 1);
        }
    }

    private static void holds() {
        promise = "18 holds";
        RuleArguments x = penguin();
        for (int literal : NO_LITERALS) {
            dueThrow("holds " + literal, ARGUMENT, () -> x.holds(literal));
        }
        due("fact", x.holds(2), 2);
        due("its opposite", x.holds(-2), 0);
        due("in", x.holds(-3), 2);
        due("out", x.holds(3), 0);
        due("without argument", x.holds(10), 0);
        x.setPriority(1, 6);
        due("undecided", x.holds(3), 1);
        due("undecided opposite", x.holds(-3), 1);
        x.addRule(3, 0, 0, 0, 7);
        due("one in, one undecided or out", x.holds(3), 2);
        due("out then", x.holds(-3), 0);
        RuleArguments y = new RuleArguments();
        y.addRule(1, 0, 0, 0, 1);
        y.addRule(1, 0, 0, 0, 1);
        y.setException(0, 1);
        y.setException(1, 5);
        y.addFact(5);
        due("one undecided before one out", y.holds(1), 1);
        y.setException(0, 5);
        y.setException(1, 1);
        due("one out before one undecided", y.holds(1), 1);
    }

    private static void reasonFor() {
        promise = "19 reasonFor";
        RuleArguments x = penguin();
        for (int literal : NO_LITERALS) {
            dueThrow("reasonFor " + literal, ARGUMENT, () -> x.reasonFor(literal));
        }
        due("fact", x.reasonFor(2), 0);
        due("bird", x.reasonFor(1), 1);
        due("does not fly", x.reasonFor(-3), 2);
        due("flies, out", x.reasonFor(3), -1);
        due("without argument", x.reasonFor(-10), -1);
        x.setPriority(1, 6);
        due("undecided", x.reasonFor(-3), -1);
        RuleArguments y = new RuleArguments();
        y.addFact(5);
        y.addRule(1, 0, 0, 0, 1);
        y.addRule(1, 0, 0, 0, 1);
        y.addRule(1, 0, 0, 0, 1);
        due("the lowest", y.reasonFor(1), 1);
        y.setException(0, 5);
        due("the lowest that is in", y.reasonFor(1), 2);
    }

    private static void reasonAgainst() {
        promise = "20 reasonAgainst";
        RuleArguments x = new RuleArguments();
        x.addRule(1, 0, 0, 0, 5);
        x.addRule(-1, 0, 0, 0, 5);
        x.addRule(-1, 0, 0, 0, 5);
        due("lowest undecided", x.reasonAgainst(0), 1);
        due("undecided", x.reasonAgainst(2), 0);
        x.addRule(-1, 0, 0, 0, 6);
        due("one that is in before a lower one that is in", x.reasonAgainst(0), 1);
        x.addRule(2, 0, 0, 0, 6);
        x.addRule(-2, 0, 0, 0, 6);
        x.setException(1, 2);
        due("one that is in before an undecided one", x.reasonAgainst(0), 2);
        x.turn(2, false);
        x.turn(3, false);
        due("arguments", x.arguments(), 4);
        due("undecided by an exception", x.reasonAgainst(1), 0);
        x.turn(5, false);
        due("the lowest of two that are in", x.reasonAgainst(1), 0);
        x.setException(0, 1);
        due("in, not the lower undecided one", x.reasonAgainst(1), 2);
        due("itself, not the out one", x.reasonAgainst(0), 0);
        x.setException(0, 0);
        due("attacked by an out one alone", x.reasonAgainst(0), -1);
        due("not attacked", x.reasonAgainst(2), -1);
        RuleArguments y = new RuleArguments();
        y.addRule(1, 0, 0, 0, 5);
        y.setException(0, 1);
        due("itself", y.reasonAgainst(0), 0);
    }

    private static void dueSets(RuleArguments x, int... sets) {
        due("preferred", x.preferred(), sets.length);
        due("preferredByAllSets", x.preferredByAllSets(), sets.length);
        int size = x.arguments();
        for (int set = 0; set < sets.length; set++) {
            int got = 0;
            for (int i = 0; i < size; i++) {
                got |= x.isInSet(set, i) ? 1 << i : 0;
            }
            due("set " + set, got, sets[set]);
        }
        for (int literal = -10; literal <= 10; literal++) {
            if (literal != 0) {
                due("setsFor " + literal, x.setsFor(literal), countFor(x, literal, sets));
            }
        }
        dueThrow("set behind the last", INDEX, () -> bit(x.isInSet(sets.length, 0)));
        dueThrow("set -1", INDEX, () -> bit(x.isInSet(-1, 0)));
        dueThrow("set MIN", INDEX, () -> bit(x.isInSet(Integer.MIN_VALUE, 0)));
        dueThrow("set MAX", INDEX, () -> bit(x.isInSet(Integer.MAX_VALUE, 0)));
        dueThrow("argument behind the last", INDEX, () -> bit(x.isInSet(0, size)));
        dueThrow("argument -1", INDEX, () -> bit(x.isInSet(0, -1)));
    }

    private static int countFor(RuleArguments x, int literal, int[] sets) {
        int count = 0;
        for (int set : sets) {
            boolean found = false;
            for (int i = 0; i < x.arguments(); i++) {
                found |= (set >> i & 1) != 0 && x.conclusion(i) == literal;
            }
            count += found ? 1 : 0;
        }
        return count;
    }

    private static void preferred() {
        promise = "21 to 24 preferred sets";
        dueSets(new RuleArguments(), 0);
        RuleArguments x = penguin();
        dueSets(x, 0b001111);
        x.setPriority(1, 6);
        // flies with 4, or does not fly with -4
        dueSets(x, 0b001111, 0b110011);
        RuleArguments y = new RuleArguments();
        y.addRule(1, 0, 0, 0, 5);
        y.setException(0, 1);
        dueSets(y, 0);
        // A ring of three exceptions: nothing but the empty set.
        RuleArguments z = new RuleArguments();
        for (int i = 0; i < 3; i++) {
            z.addRule(i + 1, 0, 0, 0, 5);
            z.setException(i, (i + 1) % 3 + 1);
        }
        dueSets(z, 0);
        // A ring of four: the even ones or the odd ones.
        z.addRule(4, 0, 0, 0, 5);
        z.setException(2, 4);
        z.setException(3, 1);
        dueSets(z, 0b0101, 0b1010);
        // 1 against 2, 1 also against 3 that attacks itself: not maximal without attacks.
        RuleArguments v = new RuleArguments();
        v.addRule(1, 0, 0, 0, 5);
        v.addRule(2, 0, 0, 0, 5);
        v.setException(0, 2);
        v.setException(1, 1);
        v.addRule(3, 0, 0, 0, 5);
        v.setException(2, 3);
        v.addRule(4, 0, 0, 0, 5);
        v.setException(3, 3);
        dueSets(v, 0b0001, 0b0010);
        v.addRule(-3, 0, 0, 0, 6);
        dueSets(v, 0b11001, 0b11010);
    }

    private static void setOrder() {
        promise = "23 order of preferred sets";
        RuleArguments x = new RuleArguments();
        for (int i = 1; i <= 3; i++) {
            x.addRule(i, 0, 0, 0, 5);
            x.addRule(-i, 0, 0, 0, 5);
        }
        dueSets(x, 0b010101, 0b100101, 0b011001, 0b101001, 0b010110, 0b100110, 0b011010, 0b101010);
        RuleArguments y = new RuleArguments();
        y.addRule(1, 0, 0, 0, 5);
        y.addRule(2, 0, 0, 0, 5);
        y.addRule(-1, 0, 0, 0, 5);
        y.addRule(-2, 0, 0, 0, 5);
        dueSets(y, 0b0011, 0b1001, 0b0110, 0b1100);
        // The set with fewer arguments comes first when it has the lowest one.
        RuleArguments z = new RuleArguments();
        z.addRule(1, 0, 0, 0, 5);
        z.addRule(-1, 0, 0, 0, 5);
        z.addRule(2, 0, 0, 0, 5);
        z.addRule(3, 0, 0, 0, 5);
        z.setException(2, 1);
        z.setException(3, 1);
        dueSets(z, 0b0001, 0b1110);
    }

    private static void fourteenArguments() {
        promise = "21 fourteen arguments";
        RuleArguments x = new RuleArguments();
        x.addFact(10);
        x.addFact(-9);
        for (int i = 1; i <= 6; i++) {
            x.addRule(i, 0, 0, 0, 5);
            x.addRule(-i, 0, 0, 0, 5);
        }
        due("arguments", x.arguments(), 14);
        due("preferred", x.preferred(), 64);
        due("preferredByAllSets", x.preferredByAllSets(), 64);
        due("first set", x.isInSet(0, 12), true);
        due("last set", x.isInSet(63, 13), true);
        due("setsFor", x.setsFor(-6), 32);
        due("setsFor a fact", x.setsFor(10), 64);
        due("setsFor nothing", x.setsFor(7), 0);
        x.addFact(8);
        due("arguments", x.arguments(), 15);
        demandAll(x, "", STATE);
        due("label of the 15th", x.label(14), 1);
        x.takeBack(-9);
        due("again", x.preferred(), 64);
        RuleArguments y = new RuleArguments();
        for (int i = 1; i <= 10; i++) {
            y.addFact(i);
        }
        for (int i = 0; i < 4; i++) {
            y.addRule(i + 1, 10, 0, 0, 5);
        }
        dueSets(y, 0b11111111111111);
    }

    /** Three arguments with each other, four times over: the most preferred sets of twelve. */
    private static void unlucky() {
        promise = "21 many preferred sets";
        RuleArguments x = new RuleArguments();
        for (int i = 1; i <= 4; i++) {
            int own = i;
            int other = i + 4;
            x.setException(x.addRule(own, 0, 0, 0, 5), other);
            x.setException(x.addRule(-own, 0, 0, 0, 5), other);
            x.setException(x.addRule(other, 0, 0, 0, 5), own);
        }
        due("arguments", x.arguments(), 12);
        due("two ways", x.preferred(), x.preferredByAllSets());
        due("at least 16", x.preferred() >= 16, true);
    }

    private static void nothingChangesOnThrow() {
        promise = "a call that throws changes nothing";
        RuleArguments x = penguin();
        String before = told(x);
        dueThrow("addFact", STATE, () -> x.addFact(-2));
        dueThrow("addFact", ARGUMENT, () -> x.addFact(11));
        dueThrow("takeBack", ARGUMENT, () -> bit(x.takeBack(0)));
        dueThrow("addRule", ARGUMENT, () -> x.addRule(1, 1, 1, 0, 0));
        dueThrow("setPriority", ARGUMENT, () -> x.setPriority(0, 10));
        dueThrow("setPriority", INDEX, () -> x.setPriority(5, 1));
        dueThrow("setException", ARGUMENT, () -> x.setException(0, 11));
        dueThrow("setException", INDEX, () -> x.setException(-1, 1));
        dueThrow("turn", INDEX, () -> bit(x.turn(5, false)));
        dueThrow("isInSet", INDEX, () -> bit(x.isInSet(5, 0)));
        if (!told(x).equals(before)) {
            wrong++;
            System.out.println(promise + ": " + before + " became " + told(x));
        }
    }

    private static String told(RuleArguments x) {
        StringBuilder text = new StringBuilder();
        text.append(x.facts()).append(' ').append(x.rules()).append(' ').append(x.arguments());
        for (int i = 0; i < x.arguments(); i++) {
            text.append(' ').append(x.conclusion(i)).append(' ').append(x.label(i));
            for (int j = 0; j < x.arguments(); j++) {
                text.append(x.attacks(i, j) ? 'x' : '.');
            }
        }
        return text.append(' ').append(x.preferred()).toString();
    }
}
