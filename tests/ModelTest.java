import java.util.ArrayList;
import java.util.Arrays;
import java.util.List;
import java.util.TreeSet;

/**
 * Long runs of calls, made up from fixed seeds, against a second program that follows the
 * document's words with no thought of speed.
 */
public final class ModelTest {
    private static final long ARGUMENT = -1001;
    private static final long STATE = -1002;
    private static final long INDEX = -1003;
    private static final int RUNS = 1000;
    private static final int CALLS = 512;

    private static int wrong = 0;
    private static long seed = 1;
    private static int sizes = 0;
    private static int mostSets = 0;
    private static int latestRound = 0;

    public static void main(String[] args) {
        for (int run = 0; run < RUNS && wrong < 20; run++) {
            seed = 1000003L * run + 17;
            play(run);
        }
        dueReached("arguments of all sizes", Integer.bitCount(sizes) == 26);
        dueReached("many preferred sets, but " + mostSets, mostSets >= 16);
        dueReached("late rounds, but " + latestRound, latestRound >= 4);
        System.out.println(wrong == 0 ? "model: as due" : "model: " + wrong + " wrong");
        if (wrong != 0) {
            System.exit(1);
        }
    }

    private static void dueReached(String what, boolean reached) {
        if (!reached) {
            wrong++;
            System.out.println("the runs do not reach " + what);
        }
    }

    private static int below(int bound) {
        seed = seed * 6364136223846793005L + 1442695040888963407L;
        return (int) ((seed >>> 33) % bound);
    }

    /** How a run chooses: few statements make many attacks, steady runs ask more than they change. */
    private static final class Taste {
        final int statements = 1 + below(10);
        final int priorities = 1 + below(10);
        final int steady = below(4);
        final int bodies = below(4);
        final int mistakes = below(3) == 0 ? 15 : 200;

        int literal() {
            if (below(mistakes) == 0) {
                int[] odd = {0, 11, -11, Integer.MIN_VALUE, Integer.MAX_VALUE};
                return odd[below(odd.length)];
            }
            return (1 + below(statements)) * (below(2) == 0 ? 1 : -1);
        }

        int literalOrNone() {
            return below(4) == 0 ? 0 : literal();
        }

        int priority() {
            return below(mistakes) == 0 ? (below(2) == 0 ? -1 : 10) : below(priorities);
        }

        int rule(int rules) {
            return below(mistakes) == 0 ? (below(2) == 0 ? -1 : 12) : below(Math.max(1, rules));
        }

        int argument(int size) {
            int most = Math.max(1, size);
            return below(mistakes) == 0 ? (below(2) == 0 ? -1 : most) : below(most);
        }
    }

    private static void play(int run) {
        Taste taste = new Taste();
        RuleArguments x = new RuleArguments();
        Model m = new Model();
        boolean inPairs = below(4) == 0;
        if (inPairs) {
            startInPairs(run, x, m);
        }
        for (int call = inPairs ? 12 : 0; call < CALLS && wrong < 20; call++) {
            boolean early = call < 30 && !inPairs;
            if (early || below(10) >= 2 * taste.steady + 1) {
                change(run, call, taste, x, m);
            } else {
                ask(run, call, taste, x, m);
            }
        }
    }

    /** Rules against each other in pairs, which chance seldom brings about. */
    private static void startInPairs(int run, RuleArguments x, Model m) {
        for (int i = 0; i < 12; i++) {
            int head = i % 2 == 0 ? i / 2 + 1 : -(i / 2 + 1);
            int priority = below(20) == 0 ? 6 : 5;
            same(run, i, "addRule " + head, told(() -> x.addRule(head, 0, 0, 0, priority)),
                    m.addRule(head, new int[3], priority));
        }
    }

    private static void change(int run, int call, Taste t, RuleArguments x, Model m) {
        int literal = t.literal();
        int rule = t.rule(m.rules.size());
        int priority = t.priority();
        switch (below(7)) {
            case 0:
                same(run, call, "addFact " + literal, told(() -> x.addFact(literal)),
                        m.addFact(literal));
                break;
            case 1:
                same(run, call, "takeBack " + literal, told(() -> bit(x.takeBack(literal))),
                        m.takeBack(literal));
                break;
            case 2:
            case 3:
                int[] body = body(t);
                same(run, call, "addRule " + literal + Arrays.toString(body) + priority,
                        told(() -> x.addRule(literal, body[0], body[1], body[2], priority)),
                        m.addRule(literal, body, priority));
                break;
            case 4:
                same(run, call, "setPriority " + rule + " " + priority,
                        told(() -> x.setPriority(rule, priority)), m.setPriority(rule, priority));
                break;
            case 5:
                int exception = t.literalOrNone();
                same(run, call, "setException " + rule + " " + exception,
                        told(() -> x.setException(rule, exception)),
                        m.setException(rule, exception));
                break;
            default:
                boolean on = below(3) != 0;
                same(run, call, "turn " + rule + " " + on, told(() -> bit(x.turn(rule, on))),
                        m.turn(rule, on));
                break;
        }
    }

    private static int[] body(Taste t) {
        int[] body = new int[3];
        int length = Math.min(below(4), t.bodies);
        for (int i = 0; i < length; i++) {
            body[i] = t.literalOrNone();
        }
        return body;
    }

    private static void ask(int run, int call, Taste t, RuleArguments x, Model m) {
        int a = t.argument((int) m.count());
        int b = t.argument((int) m.count());
        int literal = t.literal();
        int place = below(5) - 1;
        int set = t.argument(m.setCount());
        String about = " " + a + " " + b + " " + literal + " " + place + " " + set;
        int which = below(17);
        String name = which + about;
        sizes |= 1 << (m.count() < 0 ? 25 : (int) m.count());
        mostSets = Math.max(mostSets, m.setCount());
        latestRound = Math.max(latestRound, m.latestRound());
        switch (which) {
            case 0: same(run, call, name, told(x::facts), m.facts.size()); break;
            case 1: same(run, call, name, told(x::rules), m.rules.size()); break;
            case 2: same(run, call, name, told(x::arguments), m.count()); break;
            case 3: same(run, call, name, told(() -> x.conclusion(a)), m.conclusion(a)); break;
            case 4: same(run, call, name, told(() -> x.madeBy(a)), m.madeBy(a)); break;
            case 5: same(run, call, name, told(() -> x.part(a, place)), m.part(a, place)); break;
            case 6: same(run, call, name, told(() -> x.depth(a)), m.depth(a)); break;
            case 7: same(run, call, name, told(() -> bit(x.attacks(a, b))), m.attacks(a, b)); break;
            case 8: same(run, call, name, told(() -> x.label(a)), m.label(a)); break;
            case 9: same(run, call, name, told(() -> x.round(a)), m.round(a)); break;
            case 10: same(run, call, name, told(() -> x.holds(literal)), m.holds(literal)); break;
            case 11:
                same(run, call, name, told(() -> x.reasonFor(literal)), m.reasonFor(literal));
                break;
            case 12:
                same(run, call, name, told(() -> x.reasonAgainst(a)), m.reasonAgainst(a));
                break;
            case 13: same(run, call, name, told(x::preferred), m.preferred()); break;
            case 14: same(run, call, name, told(x::preferredByAllSets), m.preferred()); break;
            case 15:
                same(run, call, name, told(() -> bit(x.isInSet(set, a))), m.isInSet(set, a));
                break;
            default:
                same(run, call, name, told(() -> x.setsFor(literal)), m.setsFor(literal));
                break;
        }
    }

    private interface Call {
        int answer();
    }

    private static int bit(boolean answer) {
        return answer ? 1 : 0;
    }

    private static long told(Call call) {
        try {
            return call.answer();
        } catch (RuntimeException e) {
            if (e.getClass() == IllegalArgumentException.class) {
                return ARGUMENT;
            }
            if (e.getClass() == IllegalStateException.class) {
                return STATE;
            }
            return e.getClass() == IndexOutOfBoundsException.class ? INDEX : -9999;
        }
    }

    private static void same(int run, int call, String name, long got, long due) {
        if (got != due) {
            wrong++;
            System.out.println("run " + run + " call " + call + " " + name + ": " + got
                    + ", due is " + due);
        }
    }

    private static final class ModelRule {
        int head;
        List<Integer> body = new ArrayList<>();
        int priority;
        int exception;
        boolean on = true;
    }

    private static final class Tree {
        final int conclusion;
        final int rule;
        final List<Tree> parts;
        int number = -1;

        Tree(int conclusion, int rule, List<Tree> parts) {
            this.conclusion = conclusion;
            this.rule = rule;
            this.parts = parts;
        }

        int deep() {
            int greatest = 0;
            for (Tree part : parts) {
                greatest = Math.max(greatest, part.deep());
            }
            return rule < 0 ? 0 : 1 + greatest;
        }

        List<Tree> withAllBelow() {
            List<Tree> all = new ArrayList<>();
            all.add(this);
            for (Tree part : parts) {
                all.addAll(part.withAllBelow());
            }
            return all;
        }

        boolean looksLike(Tree other) {
            return conclusion == other.conclusion && rule == other.rule
                    && parts.equals(other.parts);
        }
    }

    private static final class Model {
        final TreeSet<Integer> facts = new TreeSet<>();
        final List<ModelRule> rules = new ArrayList<>();
        private List<Tree> trees;
        private boolean[][] attack;
        private int[] labels;
        private int[] rounds;
        private List<Integer> sets;

        private static boolean literalOrNone(int n) {
            return -10 <= n && n <= 10;
        }

        private static boolean literal(int n) {
            return literalOrNone(n) && n != 0;
        }

        private void changed() {
            trees = null;
            sets = null;
        }

        long addFact(int n) {
            if (!literal(n)) {
                return ARGUMENT;
            }
            if (facts.contains(n) || facts.contains(-n)) {
                return STATE;
            }
            facts.add(n);
            changed();
            return facts.size();
        }

        long takeBack(int n) {
            if (!literal(n)) {
                return ARGUMENT;
            }
            changed();
            return facts.remove(n) ? 1 : 0;
        }

        long addRule(int head, int[] body, int priority) {
            boolean right = literal(head) && priority >= 0 && priority <= 9;
            ModelRule rule = new ModelRule();
            for (int i = 0; i < 3; i++) {
                right &= literalOrNone(body[i]);
                if (body[i] != 0) {
                    right &= rule.body.size() == i && !rule.body.contains(body[i]);
                    rule.body.add(body[i]);
                }
            }
            if (!right) {
                return ARGUMENT;
            }
            if (rules.size() == 12) {
                return STATE;
            }
            rule.head = head;
            rule.priority = priority;
            rules.add(rule);
            changed();
            return rules.size() - 1;
        }

        private boolean isRule(int n) {
            return n >= 0 && n < rules.size();
        }

        long setPriority(int n, int priority) {
            if (!isRule(n)) {
                return INDEX;
            }
            if (priority < 0 || priority > 9) {
                return ARGUMENT;
            }
            int before = rules.get(n).priority;
            rules.get(n).priority = priority;
            changed();
            return before;
        }

        long setException(int n, int exception) {
            if (!isRule(n)) {
                return INDEX;
            }
            if (!literalOrNone(exception)) {
                return ARGUMENT;
            }
            int before = rules.get(n).exception;
            rules.get(n).exception = exception;
            changed();
            return before;
        }

        long turn(int n, boolean on) {
            if (!isRule(n)) {
                return INDEX;
            }
            boolean before = rules.get(n).on;
            rules.get(n).on = on;
            changed();
            return before ? 1 : 0;
        }

        /** All trees by adding what can be added until nothing can; null where there are over 24. */
        private List<Tree> grow() {
            List<Tree> all = new ArrayList<>();
            for (int fact : facts) {
                all.add(new Tree(fact, -1, new ArrayList<>()));
            }
            boolean more = true;
            while (more) {
                more = false;
                for (int r = 0; r < rules.size(); r++) {
                    for (List<Tree> parts : choices(rules.get(r), 0, all)) {
                        more |= addNew(all, new Tree(rules.get(r).head, r, parts));
                        if (all.size() > 24) {
                            return null;
                        }
                    }
                }
            }
            return all;
        }

        private List<List<Tree>> choices(ModelRule rule, int place, List<Tree> all) {
            List<List<Tree>> found = new ArrayList<>();
            if (!rule.on) {
                return found;
            }
            if (place == rule.body.size()) {
                found.add(new ArrayList<>());
                return found;
            }
            for (List<Tree> rest : choices(rule, place + 1, all)) {
                for (Tree tree : all) {
                    if (tree.conclusion == rule.body.get(place)) {
                        List<Tree> longer = new ArrayList<>(rest);
                        longer.add(0, tree);
                        found.add(longer);
                    }
                }
            }
            return found;
        }

        private static boolean addNew(List<Tree> all, Tree tree) {
            for (Tree other : all) {
                if (other.looksLike(tree)) {
                    return false;
                }
            }
            for (Tree part : tree.parts) {
                for (Tree below : part.withAllBelow()) {
                    if (below.conclusion == tree.conclusion) {
                        return false;
                    }
                }
            }
            all.add(tree);
            return true;
        }

        private static int order(Tree a, Tree b) {
            if (a.rule < 0) {
                return Integer.compare(a.conclusion, b.conclusion);
            }
            if (a.rule != b.rule) {
                return Integer.compare(a.rule, b.rule);
            }
            for (int i = 0; i < a.parts.size(); i++) {
                if (a.parts.get(i).number != b.parts.get(i).number) {
                    return Integer.compare(a.parts.get(i).number, b.parts.get(i).number);
                }
            }
            return 0;
        }

        private List<Tree> ordered(List<Tree> all) {
            List<Tree> done = new ArrayList<>();
            for (int depth = 0; depth <= 24; depth++) {
                List<Tree> level = new ArrayList<>();
                for (Tree tree : all) {
                    if (tree.deep() == depth) {
                        level.add(tree);
                    }
                }
                level.sort(Model::order);
                for (Tree tree : level) {
                    tree.number = done.size();
                    done.add(tree);
                }
            }
            return done;
        }

        private int strength(Tree tree) {
            return tree.rule < 0 ? 10 : rules.get(tree.rule).priority;
        }

        private boolean hits(Tree a, Tree b) {
            for (Tree c : b.withAllBelow()) {
                if (c.rule >= 0) {
                    boolean opposite = a.conclusion == -c.conclusion;
                    if (opposite && strength(a) >= strength(c)) {
                        return true;
                    }
                    if (a.conclusion == rules.get(c.rule).exception) {
                        return true;
                    }
                }
            }
            return false;
        }

        /** Whether the arguments can be told, after working them out. */
        private boolean ready() {
            if (trees == null) {
                List<Tree> all = grow();
                trees = all == null ? new ArrayList<>() : ordered(all);
                if (all == null) {
                    trees.add(null);
                    return false;
                }
                int n = trees.size();
                attack = new boolean[n][n];
                for (int a = 0; a < n; a++) {
                    for (int b = 0; b < n; b++) {
                        attack[a][b] = hits(trees.get(a), trees.get(b));
                    }
                }
                labelAll(n);
            }
            return trees.isEmpty() || trees.get(0) != null;
        }

        private void labelAll(int n) {
            labels = new int[n];
            rounds = new int[n];
            Arrays.fill(labels, 1);
            boolean more = true;
            for (int number = 1; more; number++) {
                more = false;
                int[] before = labels.clone();
                for (int b = 0; b < n; b++) {
                    boolean allOut = true;
                    for (int a = 0; a < n; a++) {
                        allOut &= !attack[a][b] || before[a] == 0;
                    }
                    if (before[b] == 1 && allOut) {
                        labels[b] = 2;
                        rounds[b] = number;
                        more = true;
                    }
                }
                int[] between = labels.clone();
                for (int b = 0; b < n; b++) {
                    for (int a = 0; a < n; a++) {
                        if (between[b] == 1 && attack[a][b] && between[a] == 2) {
                            labels[b] = 0;
                            rounds[b] = number;
                            more = true;
                        }
                    }
                }
            }
        }

        private boolean told(int argument) {
            return argument >= 0 && argument < trees.size();
        }

        long count() {
            return ready() ? trees.size() : -1;
        }

        int latestRound() {
            int latest = 0;
            for (int i = 0; ready() && i < trees.size(); i++) {
                latest = Math.max(latest, rounds[i]);
            }
            return latest;
        }

        long conclusion(int a) {
            return !ready() ? STATE : !told(a) ? INDEX : trees.get(a).conclusion;
        }

        long madeBy(int a) {
            return !ready() ? STATE : !told(a) ? INDEX : trees.get(a).rule;
        }

        long part(int a, int place) {
            if (!ready()) {
                return STATE;
            }
            if (!told(a) || place < 0 || place >= trees.get(a).parts.size()) {
                return INDEX;
            }
            return trees.get(a).parts.get(place).number;
        }

        long depth(int a) {
            return !ready() ? STATE : !told(a) ? INDEX : trees.get(a).deep();
        }

        long attacks(int a, int b) {
            return !ready() ? STATE : !told(a) || !told(b) ? INDEX : attack[a][b] ? 1 : 0;
        }

        long label(int a) {
            return !ready() ? STATE : !told(a) ? INDEX : labels[a];
        }

        long round(int a) {
            return !ready() ? STATE : !told(a) ? INDEX : rounds[a];
        }

        long holds(int n) {
            if (!literal(n)) {
                return ARGUMENT;
            }
            if (!ready()) {
                return STATE;
            }
            boolean undecided = false;
            for (Tree tree : trees) {
                if (tree.conclusion == n && labels[tree.number] == 2) {
                    return 2;
                }
                undecided |= tree.conclusion == n && labels[tree.number] == 1;
            }
            return undecided ? 1 : 0;
        }

        long reasonFor(int n) {
            if (!literal(n)) {
                return ARGUMENT;
            }
            if (!ready()) {
                return STATE;
            }
            for (Tree tree : trees) {
                if (tree.conclusion == n && labels[tree.number] == 2) {
                    return tree.number;
                }
            }
            return -1;
        }

        long reasonAgainst(int b) {
            if (!ready()) {
                return STATE;
            }
            if (!told(b)) {
                return INDEX;
            }
            for (int wanted = 2; wanted >= 1; wanted--) {
                for (int a = 0; a < trees.size(); a++) {
                    if (attack[a][b] && labels[a] == wanted) {
                        return a;
                    }
                }
            }
            return -1;
        }

        private boolean admissible(int set) {
            int n = trees.size();
            for (int a = 0; a < n; a++) {
                for (int b = 0; b < n; b++) {
                    if (attack[a][b] && (set >> b & 1) != 0) {
                        if ((set >> a & 1) != 0 || !hitBy(set, a)) {
                            return false;
                        }
                    }
                }
            }
            return true;
        }

        private boolean hitBy(int set, int b) {
            for (int a = 0; a < trees.size(); a++) {
                if ((set >> a & 1) != 0 && attack[a][b]) {
                    return true;
                }
            }
            return false;
        }

        /** Whether preferred sets can be told, after finding them. */
        private boolean few() {
            if (!ready() || trees.size() > 14) {
                return false;
            }
            if (sets == null) {
                List<Integer> admissible = new ArrayList<>();
                for (int set = 0; set < 1 << trees.size(); set++) {
                    if (admissible(set)) {
                        admissible.add(set);
                    }
                }
                sets = new ArrayList<>();
                for (int set : admissible) {
                    if (isGreatest(set, admissible)) {
                        sets.add(set);
                    }
                }
                sets.sort(Model::setOrder);
            }
            return true;
        }

        private static boolean isGreatest(int set, List<Integer> others) {
            for (int other : others) {
                if (other != set && (other | set) == other) {
                    return false;
                }
            }
            return true;
        }

        private static int setOrder(int a, int b) {
            int lowest = Integer.lowestOneBit(a ^ b);
            return lowest == 0 ? 0 : (a & lowest) != 0 ? -1 : 1;
        }

        int setCount() {
            return few() ? sets.size() : 0;
        }

        long preferred() {
            return few() ? sets.size() : STATE;
        }

        long isInSet(int set, int a) {
            if (!few()) {
                return STATE;
            }
            return set < 0 || set >= sets.size() || !told(a) ? INDEX : sets.get(set) >> a & 1;
        }

        long setsFor(int n) {
            if (!literal(n)) {
                return ARGUMENT;
            }
            if (!few()) {
                return STATE;
            }
            int count = 0;
            for (int set : sets) {
                boolean found = false;
                for (Tree tree : trees) {
                    found |= tree.conclusion == n && (set >> tree.number & 1) != 0;
                }
                count += found ? 1 : 0;
            }
            return count;
        }
    }
}
