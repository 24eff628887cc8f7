import java.util.ArrayList;
import java.util.LinkedHashMap;
import java.util.List;
import java.util.Map;
import java.util.TreeSet;

/**
 * The program against a model that follows the document's definitions word by
 * word: over all 6942 spaces on five points, and over runs of 512 calls.
 */
public final class ModelTest {
    private static final int CALLS = 512;
    private static final int RUNS = 60;
    private static final Map<TreeSet<Integer>, List<Integer>> WAYS = allSpaces();
    private static int wrong = 0;

    public static void main(String[] args) {
        due("the number of spaces on five points", WAYS.size(), 6942);
        int index = 0;
        for (Map.Entry<TreeSet<Integer>, List<Integer>> entry : WAYS.entrySet()) {
            checkQuestions(entry.getKey(), entry.getValue());
            if (index++ % 23 == 0) {
                checkLikeness(entry.getKey(), entry.getValue(), index);
            }
        }
        checkPairs(new ArrayList<>(WAYS.keySet()));
        checkEveryMap(new ArrayList<>(WAYS.keySet()));
        for (int run = 0; run < RUNS; run++) {
            checkRun(run);
        }
        System.out.println(wrong == 0 ? "program and model agree" : wrong + " answers differ");
        if (wrong != 0) {
            System.exit(1);
        }
    }

    private static void due(String call, int got, int want) {
        if (got != want && wrong++ < 100) {
            System.out.println(call + " answered " + got + ", due is " + want);
        }
    }

    /**
     * Every space with a shortest way to make it by open from plain: found
     * round by round, so the length of the way is what needed must answer.
     */
    private static Map<TreeSet<Integer>, List<Integer>> allSpaces() {
        Map<TreeSet<Integer>, List<Integer>> ways = new LinkedHashMap<>();
        List<TreeSet<Integer>> queue = new ArrayList<>();
        ways.put(Model.plainFamily(), new ArrayList<>());
        queue.add(Model.plainFamily());
        for (int i = 0; i < queue.size(); i++) {
            for (int set = 0; set < 32; set++) {
                if (queue.get(i).contains(set)) {
                    continue;
                }
                TreeSet<Integer> more = new TreeSet<>(queue.get(i));
                more.add(set);
                Model.closeUp(more);
                if (!ways.containsKey(more)) {
                    List<Integer> way = new ArrayList<>(ways.get(queue.get(i)));
                    way.add(set);
                    ways.put(more, way);
                    queue.add(more);
                }
            }
        }
        return ways;
    }

    private static PointSpaces made(List<Integer> way) {
        PointSpaces x = new PointSpaces();
        for (int set : way) {
            x.open(0, set);
        }
        return x;
    }

    private static void checkQuestions(TreeSet<Integer> family, List<Integer> way) {
        PointSpaces x = made(way);
        Model m = new Model();
        m.families.set(0, family);
        due("needed" + way, x.needed(0), way.size());
        due("opens" + way, x.opens(0), family.size());
        due("dense" + way, x.dense(0), m.dense(0));
        due("kind" + way, x.kind(0), m.kind(0));
        for (int set = 0; set < 32; set++) {
            due("isOpen" + way + set, x.isOpen(0, set), m.isOpen(0, set));
            due("inner" + way + set, x.inner(0, set), m.inner(0, set));
            due("closure" + way + set, x.closure(0, set), m.closure(0, set));
        }
        for (int k = -1; k <= 32; k++) {
            due("openAt" + way + k, x.openAt(0, k), m.openAt(0, k));
        }
        for (int k = -1; k <= 6; k++) {
            due("chains" + way + k, x.chains(0, k), m.chains(0, k));
        }
        for (int a = 0; a < 5; a++) {
            due("around" + way + a, x.around(0, a), m.around(0, a));
            due("piece" + way + a, x.piece(0, a), m.piece(0, a));
            for (int b = 0; b < 5; b++) {
                x.copy(1, 0);
                m.copy(1, 0);
                due("tie" + way + a + b, x.tie(1, a, b), m.tie(1, a, b));
            }
        }
        due("turn" + way, x.turn(0), m.turn(0));
        dueSameSpaces("turn" + way, x, m);
    }

    /** Carries a space along one map, and compares it with what it became. */
    private static void checkLikeness(TreeSet<Integer> family, List<Integer> way, int index) {
        PointSpaces x = made(way);
        Model m = new Model();
        m.families.set(0, family);
        int exchange = 1 + 5 * 3 + 25 * 4 + 125 * 0 + 625 * 2;
        int map = index % 46 == 1 ? exchange : index * 37 % 3125;
        due("pull" + way + map, x.pull(1, 0, map), m.pull(1, 0, map));
        due("push" + way + map, x.push(2, 0, map), m.push(2, 0, map));
        dueSameSpaces("pull and push" + way + map, x, m);
        for (int t = 0; t < 3; t++) {
            due("maps" + way + map + " to " + t, x.maps(0, t), m.maps(0, t));
            due("maps" + way + map + " from " + t, x.maps(t, 0), m.maps(t, 0));
            due("same" + way + map + " to " + t, x.same(0, t), m.same(0, t));
            due("same" + way + map + " from " + t, x.same(t, 0), m.same(t, 0));
        }
    }

    /** Every space with one far from it in the list: what they share, and what they make together. */
    private static void checkPairs(List<TreeSet<Integer>> spaces) {
        for (int i = 0; i < spaces.size(); i++) {
            TreeSet<Integer> first = spaces.get(i);
            TreeSet<Integer> second = spaces.get((i * 1009 + 500) % spaces.size());
            PointSpaces x = made(WAYS.get(first));
            Model m = new Model();
            m.put(0, first);
            m.put(1, second);
            for (int set : WAYS.get(second)) {
                x.open(1, set);
            }
            due("copy of pair " + i, x.copy(2, 1), m.copy(2, 1));
            due("meet of pair " + i, x.meet(2, 0), m.meet(2, 0));
            dueSameSpaces("meet of pair " + i, x, m);
            due("join of pair " + i, x.join(0, 1), m.join(0, 1));
            dueSameSpaces("join of pair " + i, x, m);
        }
    }

    /** Every map, each with a space of its own, to another space and to the space itself. */
    private static void checkEveryMap(List<TreeSet<Integer>> spaces) {
        for (int map = 0; map < 3125; map++) {
            TreeSet<Integer> family = spaces.get(map * 2003 % spaces.size());
            PointSpaces x = made(WAYS.get(family));
            Model m = new Model();
            m.put(0, family);
            due("pull by " + map, x.pull(1, 0, map), m.pull(1, 0, map));
            due("push by " + map, x.push(2, 0, map), m.push(2, 0, map));
            dueSameSpaces("pull and push by " + map, x, m);
            for (int t = 0; t < 3; t++) {
                due("continuous by " + map, x.continuous(0, t, map), m.isContinuous(0, t, map) ? 1 : 0);
                due("continuous by " + map, x.continuous(t, 0, map), m.isContinuous(t, 0, map) ? 1 : 0);
            }
            x.copy(1, 0);
            m.copy(1, 0);
            due("pull of itself by " + map, x.pull(0, 0, map), m.pull(0, 0, map));
            due("push of itself by " + map, x.push(1, 1, map), m.push(1, 1, map));
            dueSameSpaces("pull and push of itself by " + map, x, m);
        }
    }

    private static void dueSameSpaces(String after, PointSpaces x, Model m) {
        for (int s = 0; s < 3; s++) {
            for (int set = 0; set < 32; set++) {
                due("isOpen(" + s + ", " + set + ") after " + after, x.isOpen(s, set), m.isOpen(s, set));
            }
        }
    }

    private static void checkRun(int run) {
        PointSpaces x = new PointSpaces();
        Model m = new Model();
        Numbers numbers = new Numbers(run);
        for (int call = 1; call <= CALLS; call++) {
            int method = numbers.next(28);
            int s = numbers.nextArgument(3, 40);
            int t = numbers.nextArgument(3, 40);
            int a = numbers.nextArgument(32, 40);
            int p = numbers.nextArgument(5, 40);
            int q = numbers.nextArgument(5, 40);
            int map = numbers.nextArgument(3125, 40);
            String name = "run " + run + " call " + call + ": method " + method
                    + " s " + s + " t " + t + " set " + a + " points " + p + " " + q + " map " + map;
            due(name, ask(x, method, s, t, a, p, q, map), m.ask(method, s, t, a, p, q, map));
        }
    }

    private static int ask(PointSpaces x, int method, int s, int t, int a, int p, int q, int map) {
        switch (method) {
            case 0: return numbersAgree(a) ? x.plain(s) : x.opens(s);
            case 1: return numbersAgree(a) ? x.loose(s) : x.opens(s);
            case 2: return x.tie(s, p, q);
            case 3: return x.turn(s);
            case 4: return x.copy(s, t);
            case 5: return x.join(s, t);
            case 6: return x.meet(s, t);
            case 7: return x.pull(s, t, map);
            case 8: return x.push(s, t, map);
            case 9: return x.opens(s);
            case 10: return x.isOpen(s, a);
            case 11: return x.openAt(s, a);
            case 12: return x.inner(s, a);
            case 13: return x.closure(s, a);
            case 14: return x.around(s, p);
            case 15: return x.dense(s);
            case 16: return x.piece(s, p);
            case 17: return x.kind(s);
            case 18: return x.continuous(s, t, map);
            case 19: return x.maps(s, t);
            case 20: return x.same(s, t);
            case 21: return x.chains(s, p);
            case 22: return x.needed(s);
            default: return x.open(s, a);
        }
    }

    /** Makes plain and loose rarer in the runs, so that the spaces between them last. */
    private static boolean numbersAgree(int a) {
        return a % 4 == 0;
    }

    /** A fixed row of numbers, the same at every run of the test. */
    private static final class Numbers {
        private long state;

        Numbers(int seed) {
            state = 1000003L * seed + 12345;
        }

        int next(int bound) {
            state = state * 6364136223846793005L + 1442695040888963407L;
            return (int) ((state >>> 33) % bound);
        }

        /** Mostly below the bound; one time in so many just outside or far out. */
        int nextArgument(int bound, int oneIn) {
            int value = next(bound);
            if (next(oneIn) != 0) {
                return value;
            }
            int[] out = {-1, bound, bound + 1, Integer.MIN_VALUE, Integer.MAX_VALUE};
            return out[next(out.length)];
        }
    }

    /** The document's words as plainly as they can be said, whatever that costs. */
    private static final class Model {
        private static final int[][] COMING = comingTable();
        private final List<TreeSet<Integer>> families = new ArrayList<>();

        Model() {
            for (int s = 0; s < 3; s++) {
                families.add(plainFamily());
            }
        }

        static TreeSet<Integer> plainFamily() {
            return new TreeSet<>(List.of(0, 31));
        }

        static void closeUp(TreeSet<Integer> family) {
            boolean[] in = new boolean[32];
            for (int v : family) {
                in[v] = true;
            }
            boolean grown = true;
            while (grown) {
                grown = false;
                for (int v = 0; v < 32; v++) {
                    for (int w = v + 1; w < 32; w++) {
                        if (in[v] && in[w] && !(in[v | w] && in[v & w])) {
                            in[v | w] = true;
                            in[v & w] = true;
                            grown = true;
                        }
                    }
                }
            }
            for (int v = 0; v < 32; v++) {
                if (in[v]) {
                    family.add(v);
                }
            }
        }

        private static int value(int map, int x) {
            int[] weights = {1, 5, 25, 125, 625};
            return map / weights[x] % 5;
        }

        private static int[][] comingTable() {
            int[][] table = new int[3125][32];
            for (int map = 0; map < 3125; map++) {
                for (int set = 0; set < 32; set++) {
                    for (int x = 0; x < 5; x++) {
                        if ((set & 1 << value(map, x)) != 0) {
                            table[map][set] += 1 << x;
                        }
                    }
                }
            }
            return table;
        }

        int ask(int method, int s, int t, int a, int p, int q, int map) {
            boolean two = method >= 4 && method <= 8 || method >= 18 && method <= 20;
            if (s < 0 || s > 2 || two && (t < 0 || t > 2)) {
                return -1;
            }
            boolean set = method == 10 || method == 12 || method == 13 || method > 22;
            boolean point = method == 2 || method == 14 || method == 16;
            boolean mapped = method == 7 || method == 8 || method == 18;
            if (set && (a < 0 || a > 31) || point && (p < 0 || p > 4)
                    || method == 2 && (q < 0 || q > 4) || mapped && (map < 0 || map > 3124)) {
                return -2;
            }
            switch (method) {
                case 0: return numbersAgree(a) ? put(s, plainFamily()) : families.get(s).size();
                case 1: return numbersAgree(a) ? loose(s) : families.get(s).size();
                case 2: return tie(s, p, q);
                case 3: return turn(s);
                case 4: return copy(s, t);
                case 5: return join(s, t);
                case 6: return meet(s, t);
                case 7: return pull(s, t, map);
                case 8: return push(s, t, map);
                case 9: return families.get(s).size();
                case 10: return isOpen(s, a);
                case 11: return openAt(s, a);
                case 12: return inner(s, a);
                case 13: return closure(s, a);
                case 14: return around(s, p);
                case 15: return dense(s);
                case 16: return piece(s, p);
                case 17: return kind(s);
                case 18: return isContinuous(s, t, map) ? 1 : 0;
                case 19: return maps(s, t);
                case 20: return same(s, t);
                case 21: return chains(s, p);
                case 22: return needed(s);
                default: return open(s, a);
            }
        }

        int put(int s, TreeSet<Integer> family) {
            families.set(s, family);
            return family.size();
        }

        int loose(int s) {
            TreeSet<Integer> all = new TreeSet<>();
            for (int set = 0; set < 32; set++) {
                all.add(set);
            }
            return put(s, all);
        }

        int open(int s, int set) {
            TreeSet<Integer> more = new TreeSet<>(families.get(s));
            more.add(set);
            closeUp(more);
            return put(s, more);
        }

        int tie(int s, int a, int b) {
            TreeSet<Integer> kept = new TreeSet<>(families.get(s));
            kept.removeIf(set -> (set & 1 << a) != 0 && (set & 1 << b) == 0);
            return put(s, kept);
        }

        int turn(int s) {
            TreeSet<Integer> closed = new TreeSet<>();
            for (int set : families.get(s)) {
                closed.add(set ^ 31);
            }
            return put(s, closed);
        }

        int copy(int s, int t) {
            return put(s, new TreeSet<>(families.get(t)));
        }

        int join(int s, int t) {
            TreeSet<Integer> both = new TreeSet<>(families.get(s));
            both.addAll(families.get(t));
            closeUp(both);
            return put(s, both);
        }

        int meet(int s, int t) {
            TreeSet<Integer> shared = new TreeSet<>(families.get(s));
            shared.retainAll(families.get(t));
            return put(s, shared);
        }

        int pull(int s, int t, int map) {
            TreeSet<Integer> pulled = new TreeSet<>();
            for (int set : families.get(t)) {
                pulled.add(COMING[map][set]);
            }
            return put(s, pulled);
        }

        int push(int s, int t, int map) {
            TreeSet<Integer> pushed = new TreeSet<>();
            for (int set = 0; set < 32; set++) {
                if (families.get(t).contains(COMING[map][set])) {
                    pushed.add(set);
                }
            }
            return put(s, pushed);
        }

        int isOpen(int s, int set) {
            return families.get(s).contains(set) ? 1 : 0;
        }

        private boolean isClosed(int s, int set) {
            return families.get(s).contains(31 ^ set);
        }

        int openAt(int s, int k) {
            for (int set : families.get(s)) {
                if (families.get(s).headSet(set).size() == k) {
                    return set;
                }
            }
            return -3;
        }

        /** The greatest open set has the most points of those within. */
        int inner(int s, int set) {
            int best = 0;
            for (int v : families.get(s)) {
                if ((v | set) == set && Integer.bitCount(v) > Integer.bitCount(best)) {
                    best = v;
                }
            }
            return best;
        }

        /** The least closed set has the fewest points of those that hold the set. */
        int closure(int s, int set) {
            int best = 31;
            for (int v = 0; v < 32; v++) {
                if (isClosed(s, v) && (v | set) == v && Integer.bitCount(v) < Integer.bitCount(best)) {
                    best = v;
                }
            }
            return best;
        }

        int around(int s, int x) {
            int best = 31;
            for (int v : families.get(s)) {
                if ((v & 1 << x) != 0 && Integer.bitCount(v) < Integer.bitCount(best)) {
                    best = v;
                }
            }
            return best;
        }

        int dense(int s) {
            int count = 0;
            for (int set = 0; set < 32; set++) {
                count += closure(s, set) == 31 ? 1 : 0;
            }
            return count;
        }

        int piece(int s, int x) {
            int best = 31;
            for (int v : families.get(s)) {
                if (isClosed(s, v) && (v & 1 << x) != 0 && Integer.bitCount(v) < Integer.bitCount(best)) {
                    best = v;
                }
            }
            return best;
        }

        int kind(int s) {
            TreeSet<Integer> closures = new TreeSet<>();
            boolean pointsClosed = true;
            for (int x = 0; x < 5; x++) {
                closures.add(closure(s, 1 << x));
                pointsClosed &= isClosed(s, 1 << x);
            }
            boolean onlyTwo = true;
            boolean openIsClosed = true;
            for (int v : families.get(s)) {
                onlyTwo &= v == 0 || v == 31 || !isClosed(s, v);
                openIsClosed &= isClosed(s, v);
            }
            return (closures.size() == 5 ? 1 : 0) + (pointsClosed ? 2 : 0)
                    + (onlyTwo ? 4 : 0) + (openIsClosed ? 8 : 0);
        }

        private boolean isContinuous(int s, int t, int map) {
            for (int v : families.get(t)) {
                if (!families.get(s).contains(COMING[map][v])) {
                    return false;
                }
            }
            return true;
        }

        int maps(int s, int t) {
            int count = 0;
            for (int map = 0; map < 3125; map++) {
                count += isContinuous(s, t, map) ? 1 : 0;
            }
            return count;
        }

        int same(int s, int t) {
            int count = 0;
            for (int map = 0; map < 3125; map++) {
                TreeSet<Integer> values = new TreeSet<>();
                for (int x = 0; x < 5; x++) {
                    values.add(value(map, x));
                }
                count += values.size() == 5 && isContinuous(s, t, map) && isOpenMap(s, t, map) ? 1 : 0;
            }
            return count;
        }

        private boolean isOpenMap(int s, int t, int map) {
            for (int v : families.get(s)) {
                int taken = 0;
                for (int x = 0; x < 5; x++) {
                    taken |= (v & 1 << x) != 0 ? 1 << value(map, x) : 0;
                }
                if (!families.get(t).contains(taken)) {
                    return false;
                }
            }
            return true;
        }

        int chains(int s, int k) {
            int count = 0;
            for (int set = 1; set < 32; set++) {
                TreeSet<Integer> closures = new TreeSet<>();
                for (int x = 0; x < 5; x++) {
                    if ((set & 1 << x) != 0) {
                        closures.add(closure(s, 1 << x));
                    }
                }
                boolean chain = Integer.bitCount(set) == k && closures.size() == k;
                for (int v : closures) {
                    for (int w : closures) {
                        chain &= (v | w) == v || (v | w) == w;
                    }
                }
                count += chain ? 1 : 0;
            }
            return count;
        }

        int needed(int s) {
            return WAYS.get(families.get(s)).size();
        }
    }
}
