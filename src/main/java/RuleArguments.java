import java.util.ArrayList;

/**
 * Facts and rules, the arguments that are built out of them, and which of these are accepted.
 *
 * <p>What the facts and rules lead to is worked out at the first question after a change, and kept
 * until the next change.
 */
public final class RuleArguments {
    private static final int STATEMENTS = 10;
    private static final int LITERALS = 2 * STATEMENTS + 1;
    private static final int MOST_RULES = 12;
    private static final int BODY = 3;
    private static final int HIGHEST_PRIORITY = 9;
    private static final int FACT_STRENGTH = 10;
    private static final int MOST_ARGUMENTS = 24;
    private static final int NONE = -1;

    private static final int OUT = 0;
    private static final int UNDECIDED = 1;
    private static final int IN = 2;

    private static final int MOST_IN_SETS = 14;
    private static final int HALF = MOST_IN_SETS / 2;
    private static final int HALF_SETS = 1 << HALF;
    // Two preferred sets never lie in one maximal set without attacks inside (together they would
    // be admissible), and a graph of 14 points has at most 2 * 3^4 maximal independent sets.
    private static final int MOST_SETS = 162;

    private final FactBook factBook;
    private final RuleBook ruleBook;
    private final ArgumentList list;
    private final AttackGraph graph;
    private final Labelling labelling;
    private final SetSearch search;
    private boolean built;
    private boolean tried;
    private boolean swept;

    public RuleArguments() {
        factBook = new FactBook();
        ruleBook = new RuleBook();
        list = new ArgumentList();
        graph = new AttackGraph();
        labelling = new Labelling();
        search = new SetSearch();
    }

    // ---- facts and rules

    public int addFact(int literal) throws IllegalArgumentException, IllegalStateException {
        demandLiteral(literal);
        if (factBook.has(literal) || factBook.has(-literal)) {
            throw new IllegalStateException("it or its opposite is a fact");
        }
        factBook.put(literal);
        forget();
        return factBook.count;
    }

    public boolean takeBack(int literal) throws IllegalArgumentException {
        demandLiteral(literal);
        if (!factBook.has(literal)) {
            return false;
        }
        factBook.drop(literal);
        forget();
        return true;
    }

    public int addRule(int head, int first, int second, int third, int priority)
            throws IllegalArgumentException, IllegalStateException {
        demandLiteral(head);
        demandLiteralOrNone(first);
        demandLiteralOrNone(second);
        demandLiteralOrNone(third);
        demandPriority(priority);
        if (!followsInBody(second, first) || !followsInBody(third, second)) {
            throw new IllegalArgumentException("a literal follows a 0 or comes twice");
        }
        if (third != 0 && third == first) {
            throw new IllegalArgumentException("a literal comes twice");
        }
        if (ruleBook.size() >= MOST_RULES) {
            throw new IllegalStateException("there are 12 rules");
        }
        ruleBook.put(new Rule(head, first, second, third, priority));
        forget();
        return ruleBook.size() - 1;
    }

    public int setPriority(int rule, int priority)
            throws IndexOutOfBoundsException, IllegalArgumentException {
        demandRule(rule);
        demandPriority(priority);
        Rule changed = ruleBook.at(rule);
        int before = changed.priority;
        changed.priority = priority;
        forget();
        return before;
    }

    public int setException(int rule, int literal)
            throws IndexOutOfBoundsException, IllegalArgumentException {
        demandRule(rule);
        demandLiteralOrNone(literal);
        Rule changed = ruleBook.at(rule);
        int before = changed.exception;
        changed.exception = literal;
        forget();
        return before;
    }

    public boolean turn(int rule, boolean on) throws IndexOutOfBoundsException {
        demandRule(rule);
        Rule changed = ruleBook.at(rule);
        boolean before = changed.on;
        changed.on = on;
        forget();
        return before;
    }

    public int facts() {
        return factBook.count;
    }

    public int rules() {
        return ruleBook.size();
    }

    // ---- arguments

    public int arguments() {
        build();
        return list.tooMany ? NONE : list.count;
    }

    public int conclusion(int argument) throws IllegalStateException, IndexOutOfBoundsException {
        demandTold();
        demandArgument(argument);
        return list.conclusionAt(argument);
    }

    public int madeBy(int argument) throws IllegalStateException, IndexOutOfBoundsException {
        demandTold();
        demandArgument(argument);
        return list.makerAt(argument);
    }

    public int part(int argument, int place)
            throws IllegalStateException, IndexOutOfBoundsException {
        demandTold();
        demandArgument(argument);
        int found = list.partAt(argument, place);
        if (found == NONE) {
            throw new IndexOutOfBoundsException("no such part");
        }
        return found;
    }

    public int depth(int argument) throws IllegalStateException, IndexOutOfBoundsException {
        demandTold();
        demandArgument(argument);
        return list.depthAt(argument);
    }

    public boolean attacks(int attacker, int other)
            throws IllegalStateException, IndexOutOfBoundsException {
        demandTold();
        demandArgument(attacker);
        demandArgument(other);
        return graph.leads(attacker, other);
    }

    // ---- the grounded labelling

    public int label(int argument) throws IllegalStateException, IndexOutOfBoundsException {
        demandTold();
        demandArgument(argument);
        return labelling.labelAt(argument);
    }

    public int round(int argument) throws IllegalStateException, IndexOutOfBoundsException {
        demandTold();
        demandArgument(argument);
        return labelling.roundAt(argument);
    }

    public int holds(int literal) throws IllegalArgumentException, IllegalStateException {
        demandLiteral(literal);
        demandTold();
        int best = OUT;
        for (int i = 0; i < list.count; i++) {
            if (list.conclusionAt(i) == literal) {
                best = Math.max(best, labelling.labelAt(i));
            }
        }
        return best;
    }

    public int reasonFor(int literal) throws IllegalArgumentException, IllegalStateException {
        demandLiteral(literal);
        demandTold();
        for (int i = 0; i < list.count; i++) {
            if (list.conclusionAt(i) == literal && labelling.labelAt(i) == IN) {
                return i;
            }
        }
        return NONE;
    }

    public int reasonAgainst(int argument)
            throws IllegalStateException, IndexOutOfBoundsException {
        demandTold();
        demandArgument(argument);
        int accepted = lowestAttacker(argument, IN);
        return accepted != NONE ? accepted : lowestAttacker(argument, UNDECIDED);
    }

    // ---- preferred sets

    public int preferred() throws IllegalStateException {
        demandFew();
        trySets();
        return search.byTrying.count;
    }

    public int preferredByAllSets() throws IllegalStateException {
        demandFew();
        sweepSets();
        return search.bySweep.count;
    }

    public boolean isInSet(int set, int argument)
            throws IllegalStateException, IndexOutOfBoundsException {
        demandFew();
        trySets();
        if (set < 0 || set >= search.byTrying.count) {
            throw new IndexOutOfBoundsException("no such preferred set");
        }
        demandArgument(argument);
        return search.byTrying.contains(set, argument);
    }

    public int setsFor(int literal) throws IllegalArgumentException, IllegalStateException {
        demandLiteral(literal);
        demandFew();
        trySets();
        int count = 0;
        for (int set = 0; set < search.byTrying.count; set++) {
            if (concludesInSet(set, literal)) {
                count++;
            }
        }
        return count;
    }

    // ---- what the calls demand

    private static boolean isLiteralOrNone(int number) {
        return number >= -STATEMENTS && number <= STATEMENTS;
    }

    private static void demandLiteral(int literal) {
        if (literal == 0) {
            throw new IllegalArgumentException("0 is no literal");
        }
        demandLiteralOrNone(literal);
    }

    private static void demandLiteralOrNone(int literal) {
        if (!isLiteralOrNone(literal)) {
            throw new IllegalArgumentException("literal out of range");
        }
    }

    private static void demandPriority(int priority) {
        if (priority < 0 || priority > HIGHEST_PRIORITY) {
            throw new IllegalArgumentException("priority out of range");
        }
    }

    private static boolean followsInBody(int literal, int before) {
        return literal == 0 || (before != 0 && literal != before);
    }

    private void demandRule(int rule) {
        if (rule < 0 || rule >= ruleBook.size()) {
            throw new IndexOutOfBoundsException("no such rule");
        }
    }

    private void demandTold() {
        build();
        if (list.tooMany) {
            throw new IllegalStateException("too many arguments");
        }
    }

    private void demandFew() {
        build();
        if (list.tooMany || list.count > MOST_IN_SETS) {
            throw new IllegalStateException("too many arguments for preferred sets");
        }
    }

    private void demandArgument(int argument) {
        if (argument < 0 || argument >= list.count) {
            throw new IndexOutOfBoundsException("no such argument");
        }
    }

    // ---- what is worked out between changes

    private void forget() {
        built = false;
        tried = false;
        swept = false;
    }

    private void build() {
        if (built) {
            return;
        }
        list.build(factBook, ruleBook);
        if (!list.tooMany) {
            graph.build(list, ruleBook);
            labelling.build(graph, list.count);
            search.prepare(graph, list.count);
        }
        built = true;
    }

    private void trySets() {
        if (!tried) {
            search.tryAll();
            tried = true;
        }
    }

    private void sweepSets() {
        if (!swept) {
            search.sweep();
            swept = true;
        }
    }

    private int lowestAttacker(int argument, int wanted) {
        for (int i = 0; i < list.count; i++) {
            if (graph.leads(i, argument) && labelling.labelAt(i) == wanted) {
                return i;
            }
        }
        return NONE;
    }

    private boolean concludesInSet(int set, int literal) {
        for (int i = 0; i < list.count; i++) {
            if (list.conclusionAt(i) == literal && search.byTrying.contains(set, i)) {
                return true;
            }
        }
        return false;
    }

    /** The facts. */
    private static final class FactBook {
        private final boolean[] present = new boolean[LITERALS];
        private int count;

        boolean has(int literal) {
            return isLiteralOrNone(literal) && present[literal + STATEMENTS];
        }

        void put(int literal) {
            if (isLiteralOrNone(literal) && !has(literal)) {
                present[literal + STATEMENTS] = true;
                count++;
            }
        }

        void drop(int literal) {
            if (has(literal)) {
                present[literal + STATEMENTS] = false;
                count--;
            }
        }
    }

    /** A rule; a literal of its body that it has not is 0, and so is an exception. */
    private static final class Rule {
        private final int head;
        private final int first;
        private final int second;
        private final int third;
        private int priority;
        private int exception;
        private boolean on;

        Rule(int head, int first, int second, int third, int priority) {
            this.head = head;
            this.first = first;
            this.second = second;
            this.third = third;
            this.priority = priority;
            this.on = true;
        }
    }

    /** The rules by their numbers. */
    private static final class RuleBook {
        private final ArrayList<Rule> kept = new ArrayList<>();
        // Stands in for a rule that is not there; it is off, so nothing is made of it.
        private final Rule missing = new Rule(0, 0, 0, 0, 0);

        RuleBook() {
            missing.on = false;
        }

        int size() {
            return kept.size();
        }

        Rule at(int rule) {
            return rule >= 0 && rule < kept.size() ? kept.get(rule) : missing;
        }

        void put(Rule rule) {
            if (kept.size() < MOST_RULES) {
                kept.add(rule);
            }
        }
    }

    /** All arguments in their order; building ends as soon as there are too many. */
    private static final class ArgumentList {
        private final int[] conclusions = new int[MOST_ARGUMENTS];
        private final int[] makers = new int[MOST_ARGUMENTS];
        private final int[] depths = new int[MOST_ARGUMENTS];
        private final int[] parts = new int[MOST_ARGUMENTS * BODY];
        // The conclusions of an argument and of all that it is built of, a bit for each literal.
        private final int[] reached = new int[MOST_ARGUMENTS];
        private int count;
        private boolean tooMany;

        int conclusionAt(int argument) {
            return argument >= 0 && argument < MOST_ARGUMENTS ? conclusions[argument] : 0;
        }

        int makerAt(int argument) {
            return argument >= 0 && argument < MOST_ARGUMENTS ? makers[argument] : NONE;
        }

        int depthAt(int argument) {
            return argument >= 0 && argument < MOST_ARGUMENTS ? depths[argument] : 0;
        }

        int partAt(int argument, int place) {
            if (argument < 0 || argument >= MOST_ARGUMENTS || place < 0 || place >= BODY) {
                return NONE;
            }
            return parts[argument * BODY + place];
        }

        private int reachedAt(int argument) {
            return argument >= 0 && argument < MOST_ARGUMENTS ? reached[argument] : 0;
        }

        void build(FactBook factBook, RuleBook ruleBook) {
            count = 0;
            tooMany = false;
            for (int literal = -STATEMENTS; literal <= STATEMENTS; literal++) {
                if (factBook.has(literal)) {
                    add(literal, NONE, 0, NONE, NONE, NONE);
                }
            }
            // What an argument is built of never has its conclusion, so on each way down
            // a rule comes at most once, and no depth is above the number of rules.
            for (int depth = 1; depth <= MOST_RULES && !tooMany; depth++) {
                int known = count;
                for (int i = 0; i < ruleBook.size() && !tooMany; i++) {
                    if (ruleBook.at(i).on) {
                        addMadeBy(i, ruleBook.at(i), depth, known);
                    }
                }
                if (count == known) {
                    return;
                }
            }
        }

        // An empty place of the body is filled by NONE alone, so that each loop runs once for it.
        private void addMadeBy(int number, Rule rule, int depth, int known) {
            int firstEnd = choicesEnd(rule.first, known);
            int secondEnd = choicesEnd(rule.second, known);
            int thirdEnd = choicesEnd(rule.third, known);
            for (int a = choicesStart(rule.first); a < firstEnd; a++) {
                if (conclusionAt(a) != rule.first) {
                    continue;
                }
                for (int b = choicesStart(rule.second); b < secondEnd; b++) {
                    if (conclusionAt(b) != rule.second) {
                        continue;
                    }
                    for (int c = choicesStart(rule.third); c < thirdEnd; c++) {
                        if (conclusionAt(c) == rule.third && fits(rule.head, a, b, c, depth)) {
                            add(rule.head, number, depth, a, b, c);
                        }
                    }
                }
            }
        }

        private static int choicesStart(int literal) {
            return literal == 0 ? NONE : 0;
        }

        private static int choicesEnd(int literal, int known) {
            return literal == 0 ? 0 : known;
        }

        private boolean fits(int head, int a, int b, int c, int depth) {
            int deepest = Math.max(depthAt(a), Math.max(depthAt(b), depthAt(c)));
            int below = reachedAt(a) | reachedAt(b) | reachedAt(c);
            return deepest + 1 == depth && (below & literalBit(head)) == 0;
        }

        private static int literalBit(int literal) {
            return 1 << (literal + STATEMENTS);
        }

        private void add(int conclusion, int maker, int depth, int a, int b, int c) {
            if (count >= MOST_ARGUMENTS) {
                tooMany = true;
                return;
            }
            conclusions[count] = conclusion;
            makers[count] = maker;
            depths[count] = depth;
            parts[count * BODY] = a;
            parts[count * BODY + 1] = b;
            parts[count * BODY + 2] = c;
            reached[count] =
                    literalBit(conclusion) | reachedAt(a) | reachedAt(b) | reachedAt(c);
            count++;
        }
    }

    /** Which argument attacks which, a bit for each attacker. */
    private static final class AttackGraph {
        private final int[] attackers = new int[MOST_ARGUMENTS];

        int attackersOf(int argument) {
            return argument >= 0 && argument < MOST_ARGUMENTS ? attackers[argument] : 0;
        }

        boolean leads(int attacker, int other) {
            return ((attackersOf(other) >> attacker) & 1) != 0;
        }

        // Parts have lower numbers, so their attackers are known before those of the whole.
        void build(ArgumentList list, RuleBook ruleBook) {
            for (int i = 0; i < list.count && i < MOST_ARGUMENTS; i++) {
                int hitting = 0;
                if (list.makerAt(i) != NONE) {
                    hitting = attackersOfRule(list, ruleBook, ruleBook.at(list.makerAt(i)));
                }
                for (int place = 0; place < BODY; place++) {
                    hitting |= attackersOf(list.partAt(i, place));
                }
                attackers[i] = hitting;
            }
        }

        private static int attackersOfRule(ArgumentList list, RuleBook ruleBook, Rule rule) {
            int hitting = 0;
            for (int i = 0; i < list.count; i++) {
                int said = list.conclusionAt(i);
                boolean outweighs = said == -rule.head
                        && strength(list, ruleBook, i) >= rule.priority;
                if (outweighs || said == rule.exception) {
                    hitting |= 1 << i;
                }
            }
            return hitting;
        }

        private static int strength(ArgumentList list, RuleBook ruleBook, int argument) {
            int maker = list.makerAt(argument);
            return maker == NONE ? FACT_STRENGTH : ruleBook.at(maker).priority;
        }
    }

    /** The grounded labelling; an argument that is neither in nor out is undecided. */
    private static final class Labelling {
        private final int[] rounds = new int[MOST_ARGUMENTS];
        private int in;
        private int out;

        int labelAt(int argument) {
            if (((in >> argument) & 1) != 0) {
                return IN;
            }
            return ((out >> argument) & 1) != 0 ? OUT : UNDECIDED;
        }

        int roundAt(int argument) {
            return argument >= 0 && argument < MOST_ARGUMENTS ? rounds[argument] : 0;
        }

        // Each round but the last one labels an argument.
        void build(AttackGraph graph, int count) {
            in = 0;
            out = 0;
            for (int i = 0; i < MOST_ARGUMENTS; i++) {
                rounds[i] = 0;
            }
            for (int number = 1; number <= MOST_ARGUMENTS; number++) {
                int before = in | out;
                in |= unattacked(graph, count);
                out |= defeated(graph, count);
                int labelled = (in | out) & ~before;
                if (labelled == 0) {
                    return;
                }
                noteRound(number, labelled);
            }
        }

        private int unattacked(AttackGraph graph, int count) {
            int found = 0;
            for (int i = 0; i < count; i++) {
                if (labelAt(i) == UNDECIDED && (graph.attackersOf(i) & ~out) == 0) {
                    found |= 1 << i;
                }
            }
            return found;
        }

        private int defeated(AttackGraph graph, int count) {
            int found = 0;
            for (int i = 0; i < count; i++) {
                if (labelAt(i) == UNDECIDED && (graph.attackersOf(i) & in) != 0) {
                    found |= 1 << i;
                }
            }
            return found;
        }

        private void noteRound(int number, int labelled) {
            for (int i = 0; i < MOST_ARGUMENTS; i++) {
                if (((labelled >> i) & 1) != 0) {
                    rounds[i] = number;
                }
            }
        }
    }

    // In a set the lowest argument has the highest bit, so that of two preferred sets
    // the greater number comes first.
    private static int setBit(int argument) {
        return argument >= 0 && argument < MOST_IN_SETS ? 1 << (MOST_IN_SETS - 1 - argument) : 0;
    }

    /** Preferred sets in their order. */
    private static final class SetList {
        private final int[] sets = new int[MOST_SETS];
        private int count;

        void clear() {
            count = 0;
        }

        void keep(int set) {
            if (count < MOST_SETS) {
                sets[count] = set;
                count++;
            }
        }

        boolean covers(int set) {
            for (int i = 0; i < count && i < MOST_SETS; i++) {
                if ((set & ~sets[i]) == 0) {
                    return true;
                }
            }
            return false;
        }

        boolean contains(int number, int argument) {
            boolean known = number >= 0 && number < count && number < MOST_SETS;
            return known && (sets[number] & setBit(argument)) != 0;
        }
    }

    /**
     * The union of the rows of a set's members. A sweep asks for it at every set, so it is worked
     * out ahead for all halves of sets.
     */
    private static final class UnionTable {
        private final int[] rows = new int[MOST_IN_SETS];
        private final int[] lower = new int[HALF_SETS];
        private final int[] upper = new int[HALF_SETS];

        void clearRows() {
            for (int i = 0; i < MOST_IN_SETS; i++) {
                rows[i] = 0;
            }
        }

        void addToRow(int argument, int set) {
            if (argument >= 0 && argument < MOST_IN_SETS) {
                rows[MOST_IN_SETS - 1 - argument] |= set;
            }
        }

        void fillHalves() {
            for (int place = 0; place < HALF; place++) {
                int bit = 1 << place;
                for (int set = 0; set < bit; set++) {
                    lower[bit + set] = lower[set] | rows[place];
                    upper[bit + set] = upper[set] | rows[place + HALF];
                }
            }
        }

        int of(int set) {
            return lower[set & (HALF_SETS - 1)] | upper[(set >> HALF) & (HALF_SETS - 1)];
        }
    }

    /**
     * Finds the preferred sets in two ways. Both meet sets in falling order, so a set comes after
     * all that it lies in: an admissible one is preferred if none found before covers it.
     */
    private static final class SetSearch {
        private final UnionTable attackers = new UnionTable();
        private final UnionTable attacked = new UnionTable();
        private final SetList byTrying = new SetList();
        private final SetList bySweep = new SetList();
        private int size;

        void prepare(AttackGraph graph, int count) {
            size = Math.min(count, MOST_IN_SETS);
            attackers.clearRows();
            attacked.clearRows();
            for (int a = 0; a < size; a++) {
                for (int b = 0; b < size; b++) {
                    if (graph.leads(a, b)) {
                        attackers.addToRow(b, setBit(a));
                        attacked.addToRow(a, setBit(b));
                    }
                }
            }
            attackers.fillHalves();
            attacked.fillHalves();
        }

        void tryAll() {
            byTrying.clear();
            tryFrom(this, 0, 0);
        }

        private static void tryFrom(SetSearch search, int argument, int chosen) {
            if (argument > search.size || argument > MOST_IN_SETS) {
                return;
            }
            int possible = chosen | search.restFrom(argument);
            if (search.byTrying.covers(possible) || !search.canDefend(chosen, possible)) {
                return;
            }
            if (argument == search.size) {
                search.byTrying.keep(chosen);
                return;
            }
            int with = chosen | setBit(argument);
            if (search.isPeaceful(with)) {
                tryFrom(search, argument + 1, with);
            }
            tryFrom(search, argument + 1, chosen);
        }

        void sweep() {
            bySweep.clear();
            for (int i = (1 << size) - 1; i >= 0; i--) {
                int set = i << (MOST_IN_SETS - size);
                if (isPeaceful(set) && canDefend(set, set) && !bySweep.covers(set)) {
                    bySweep.keep(set);
                }
            }
        }

        private int restFrom(int argument) {
            int all = ((1 << size) - 1) << (MOST_IN_SETS - size);
            return all & ((1 << (MOST_IN_SETS - argument)) - 1);
        }

        private boolean isPeaceful(int set) {
            return (attackers.of(set) & set) == 0;
        }

        private boolean canDefend(int set, int defenders) {
            return (attackers.of(set) & ~attacked.of(defenders)) == 0;
        }
    }
}
