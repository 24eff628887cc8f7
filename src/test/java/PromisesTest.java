/** What each promise asks: ordinary inputs, the edges the document names, and wrong inputs. */
public final class PromisesTest {
    private static final int LOW = Integer.MIN_VALUE;
    private static final int HIGH = Integer.MAX_VALUE;
    private static final int[] WRONG_SPACES = {-1, 3, 4, 32, LOW, HIGH};
    private static final int[] WRONG_SETS = {-1, 32, 33, 64, LOW, HIGH};
    private static final int[] WRONG_POINTS = {-1, 5, 6, 31, LOW, HIGH};
    private static final int[] WRONG_MAPS = {-1, 3125, 3126, LOW, HIGH};

    private static int wrong = 0;

    public static void main(String[] args) {
        newObject();
        plain();
        loose();
        open();
        tie();
        turn();
        copy();
        join();
        meet();
        pull();
        push();
        opens();
        isOpen();
        openAt();
        inner();
        closure();
        around();
        dense();
        piece();
        kind();
        continuous();
        maps();
        same();
        chains();
        needed();
        refusedCallsAndQuestionsChangeNothing();
        System.out.println(wrong == 0 ? "all promises hold" : wrong + " answers are not as due");
        if (wrong != 0) {
            System.exit(1);
        }
    }

    // Helpers.

    private static void due(int promise, String call, int got, int want) {
        if (got != want) {
            wrong++;
            System.out.println("promise " + promise + ": " + call + " answered " + got + ", due is " + want);
        }
    }

    /** The open sets of a space, as digits. */
    private static int family(PointSpaces x, int s) {
        int family = 0;
        for (int set = 0; set < 32; set++) {
            if (x.isOpen(s, set) == 1) {
                family |= 1 << set;
            }
        }
        return family;
    }

    private static void dueOpen(int promise, String after, PointSpaces x, int s, int... sets) {
        int want = 0;
        for (int set : sets) {
            want |= 1 << set;
        }
        due(promise, "open sets of " + s + " after " + after, family(x, s), want);
        due(promise, "opens(" + s + ") after " + after, x.opens(s), sets.length);
    }

    private static PointSpaces with(int... sets) {
        PointSpaces x = new PointSpaces();
        add(x, 0, sets);
        return x;
    }

    private static void add(PointSpaces x, int s, int... sets) {
        for (int set : sets) {
            x.open(s, set);
        }
    }

    private static PointSpaces withLoose() {
        PointSpaces x = new PointSpaces();
        x.loose(0);
        return x;
    }

    /** Open sets 0, 1, 3, 7, 31. */
    private static PointSpaces steps() {
        return with(1, 3, 7);
    }

    /** Open sets 0, 2, 3, 4, 6, 7, 12, 14, 15, 31. */
    private static PointSpaces arms() {
        return with(3, 12, 6);
    }

    private static int map(int f0, int f1, int f2, int f3, int f4) {
        return f0 + 5 * f1 + 25 * f2 + 125 * f3 + 625 * f4;
    }

    // The promises, in their order.

    private static void newObject() {
        PointSpaces x = new PointSpaces();
        for (int s = 0; s < 3; s++) {
            dueOpen(1, "new", x, s, 0, 31);
        }
        x.loose(1);
        dueOpen(1, "loose(1)", x, 0, 0, 31);
        dueOpen(1, "loose(1)", x, 2, 0, 31);
        dueOpen(1, "another object's loose(1)", new PointSpaces(), 1, 0, 31);
    }

    private static void plain() {
        for (int s = 0; s < 3; s++) {
            PointSpaces x = new PointSpaces();
            x.loose(0);
            x.loose(1);
            x.loose(2);
            due(2, "plain(" + s + ")", x.plain(s), 2);
            dueOpen(2, "plain", x, s, 0, 31);
            due(2, "opens of the next space", x.opens((s + 1) % 3), 32);
            due(2, "opens of the one after", x.opens((s + 2) % 3), 32);
            due(2, "plain again", x.plain(s), 2);
        }
        for (int s : WRONG_SPACES) {
            due(2, "plain(" + s + ")", new PointSpaces().plain(s), -1);
        }
    }

    private static void loose() {
        for (int s = 0; s < 3; s++) {
            PointSpaces x = new PointSpaces();
            due(3, "loose(" + s + ")", x.loose(s), 32);
            due(3, "open sets after loose", family(x, s), -1);
            due(3, "opens of the next space", x.opens((s + 1) % 3), 2);
            due(3, "loose again", x.loose(s), 32);
        }
        for (int s : WRONG_SPACES) {
            due(3, "loose(" + s + ")", new PointSpaces().loose(s), -1);
        }
    }

    private static void open() {
        PointSpaces x = new PointSpaces();
        due(4, "open(0, 3)", x.open(0, 3), 3);
        dueOpen(4, "open(0, 3)", x, 0, 0, 3, 31);
        due(4, "open(0, 12)", x.open(0, 12), 5);
        dueOpen(4, "open(0, 12)", x, 0, 0, 3, 12, 15, 31);
        due(4, "open(0, 6)", x.open(0, 6), 10);
        dueOpen(4, "open(0, 6)", x, 0, 0, 2, 3, 4, 6, 7, 12, 14, 15, 31);
        due(4, "open(0, 6) again", x.open(0, 6), 10);
        due(4, "open(0, 0)", x.open(0, 0), 10);
        due(4, "open(0, 31)", x.open(0, 31), 10);
        dueOpen(4, "open(0, 31)", x, 1, 0, 31);
        due(4, "open(2, 16)", x.open(2, 16), 3);
        dueOpen(4, "open(2, 16)", x, 2, 0, 16, 31);
        for (int point = 0; point < 5; point++) {
            due(4, "open(1, " + (1 << point) + ")", x.open(1, 1 << point), new int[] {3, 5, 9, 17, 32}[point]);
        }
        for (int s : WRONG_SPACES) {
            due(4, "open(" + s + ", 1)", x.open(s, 1), -1);
            due(4, "open(" + s + ", 32)", x.open(s, 32), -1);
        }
        for (int set : WRONG_SETS) {
            due(4, "open(0, " + set + ")", x.open(0, set), -2);
        }
    }

    private static void tie() {
        PointSpaces x = withLoose();
        due(5, "tie(0, 0, 1)", x.tie(0, 0, 1), 24);
        due(5, "isOpen(0, 1)", x.isOpen(0, 1), 0);
        due(5, "isOpen(0, 2)", x.isOpen(0, 2), 1);
        due(5, "isOpen(0, 3)", x.isOpen(0, 3), 1);
        due(5, "isOpen(0, 29)", x.isOpen(0, 29), 0);
        due(5, "tie(0, 1, 0)", x.tie(0, 1, 0), 16);
        due(5, "tie(0, 4, 4)", x.tie(0, 4, 4), 16);
        due(5, "tie(0, 4, 0)", x.tie(0, 4, 0), 12);
        due(5, "tie(1, 0, 4) on plain", x.tie(1, 0, 4), 2);
        PointSpaces y = steps();
        due(5, "tie(0, 1, 2)", y.tie(0, 1, 2), 4);
        dueOpen(5, "tie(0, 1, 2)", y, 0, 0, 1, 7, 31);
        for (int s : WRONG_SPACES) {
            due(5, "tie(" + s + ", 0, 1)", x.tie(s, 0, 1), -1);
            due(5, "tie(" + s + ", 5, -1)", x.tie(s, 5, -1), -1);
        }
        for (int point : WRONG_POINTS) {
            due(5, "tie(0, " + point + ", 0)", x.tie(0, point, 0), -2);
            due(5, "tie(0, 0, " + point + ")", x.tie(0, 0, point), -2);
        }
    }

    private static void turn() {
        PointSpaces x = steps();
        due(6, "turn(0)", x.turn(0), 5);
        dueOpen(6, "turn(0)", x, 0, 0, 24, 28, 30, 31);
        due(6, "turn(0) again", x.turn(0), 5);
        dueOpen(6, "turn(0) again", x, 0, 0, 1, 3, 7, 31);
        due(6, "turn(1) on plain", x.turn(1), 2);
        dueOpen(6, "turn(1) on plain", x, 1, 0, 31);
        x.loose(2);
        due(6, "turn(2) on loose", x.turn(2), 32);
        for (int s : WRONG_SPACES) {
            due(6, "turn(" + s + ")", x.turn(s), -1);
        }
    }

    private static void copy() {
        PointSpaces x = steps();
        due(7, "copy(2, 0)", x.copy(2, 0), 5);
        dueOpen(7, "copy(2, 0)", x, 2, 0, 1, 3, 7, 31);
        dueOpen(7, "copy(2, 0)", x, 0, 0, 1, 3, 7, 31);
        dueOpen(7, "copy(2, 0)", x, 1, 0, 31);
        x.loose(0);
        dueOpen(7, "copy(2, 0), loose(0)", x, 2, 0, 1, 3, 7, 31);
        due(7, "copy(2, 2)", x.copy(2, 2), 5);
        due(7, "copy(2, 1)", x.copy(2, 1), 2);
        dueOpen(7, "copy(2, 1)", x, 2, 0, 31);
        for (int s : WRONG_SPACES) {
            due(7, "copy(" + s + ", 0)", x.copy(s, 0), -1);
            due(7, "copy(0, " + s + ")", x.copy(0, s), -1);
        }
    }

    private static void join() {
        PointSpaces x = with(3);
        x.open(1, 6);
        due(8, "join(0, 1)", x.join(0, 1), 6);
        dueOpen(8, "join(0, 1)", x, 0, 0, 2, 3, 6, 7, 31);
        dueOpen(8, "join(0, 1)", x, 1, 0, 6, 31);
        due(8, "join(0, 0)", x.join(0, 0), 6);
        due(8, "join(0, 2)", x.join(0, 2), 6);
        due(8, "join(2, 1)", x.join(2, 1), 3);
        x.loose(1);
        due(8, "join(2, 1) with loose", x.join(2, 1), 32);
        for (int s : WRONG_SPACES) {
            due(8, "join(" + s + ", 0)", x.join(s, 0), -1);
            due(8, "join(0, " + s + ")", x.join(0, s), -1);
        }
    }

    private static void meet() {
        PointSpaces x = with(1, 3);
        add(x, 1, 3, 7);
        due(9, "meet(0, 1)", x.meet(0, 1), 3);
        dueOpen(9, "meet(0, 1)", x, 0, 0, 3, 31);
        dueOpen(9, "meet(0, 1)", x, 1, 0, 3, 7, 31);
        due(9, "meet(1, 1)", x.meet(1, 1), 4);
        due(9, "meet(1, 2)", x.meet(1, 2), 2);
        x.loose(2);
        due(9, "meet(2, 0) on loose", x.meet(2, 0), 3);
        dueOpen(9, "meet(2, 0) on loose", x, 2, 0, 3, 31);
        for (int s : WRONG_SPACES) {
            due(9, "meet(" + s + ", 0)", x.meet(s, 0), -1);
            due(9, "meet(0, " + s + ")", x.meet(0, s), -1);
        }
    }

    private static void pull() {
        int map = map(1, 0, 2, 2, 0);
        PointSpaces x = with(1, 3);
        x.loose(1);
        due(10, "pull(1, 0, map)", x.pull(1, 0, map), 4);
        dueOpen(10, "pull(1, 0, map)", x, 1, 0, 18, 19, 31);
        dueOpen(10, "pull(1, 0, map)", x, 0, 0, 1, 3, 31);
        due(10, "pull(0, 0, map)", x.pull(0, 0, map), 4);
        dueOpen(10, "pull(0, 0, map)", x, 0, 0, 18, 19, 31);
        due(10, "pull(2, 0, 2930)", x.pull(2, 0, 2930), 4);
        dueOpen(10, "pull(2, 0, 2930)", x, 2, 0, 18, 19, 31);
        due(10, "pull(2, 0, 0)", x.pull(2, 0, 0), 2);
        due(10, "pull(0, 0, 3124)", x.pull(0, 0, 3124), 2);
        dueOpen(10, "pull(0, 0, 3124)", x, 0, 0, 31);
        for (int s : WRONG_SPACES) {
            due(10, "pull(" + s + ", 0, 0)", x.pull(s, 0, 0), -1);
            due(10, "pull(0, " + s + ", 0)", x.pull(0, s, 0), -1);
            due(10, "pull(0, " + s + ", -1)", x.pull(0, s, -1), -1);
        }
        for (int wrongMap : WRONG_MAPS) {
            due(10, "pull(0, 0, " + wrongMap + ")", x.pull(0, 0, wrongMap), -2);
        }
    }

    private static void push() {
        int map = map(1, 0, 2, 2, 0);
        PointSpaces x = with(1, 3);
        due(11, "push(1, 0, map)", x.push(1, 0, map), 12);
        dueOpen(11, "push(1, 0, map)", x, 1, 0, 2, 7, 8, 10, 15, 16, 18, 23, 24, 26, 31);
        dueOpen(11, "push(1, 0, map)", x, 0, 0, 1, 3, 31);
        due(11, "push(0, 0, map)", x.push(0, 0, map), 12);
        dueOpen(11, "push(0, 0, map)", x, 0, 0, 2, 7, 8, 10, 15, 16, 18, 23, 24, 26, 31);
        due(11, "push(2, 0, 2930)", x.push(2, 0, 2930), 12);
        due(11, "push(2, 2, 0)", x.push(2, 2, 0), 32);
        x.plain(2);
        due(11, "push(2, 2, 3124)", x.push(2, 2, 3124), 32);
        for (int s : WRONG_SPACES) {
            due(11, "push(" + s + ", 0, 0)", x.push(s, 0, 0), -1);
            due(11, "push(0, " + s + ", 0)", x.push(0, s, 0), -1);
            due(11, "push(0, " + s + ", -1)", x.push(0, s, -1), -1);
        }
        for (int wrongMap : WRONG_MAPS) {
            due(11, "push(0, 0, " + wrongMap + ")", x.push(0, 0, wrongMap), -2);
        }
    }

    private static void opens() {
        PointSpaces x = arms();
        x.loose(2);
        due(12, "opens(0)", x.opens(0), 10);
        due(12, "opens(1)", x.opens(1), 2);
        due(12, "opens(2)", x.opens(2), 32);
        for (int s : WRONG_SPACES) {
            due(12, "opens(" + s + ")", x.opens(s), -1);
        }
    }

    private static void isOpen() {
        PointSpaces x = arms();
        int[] open = {0, 2, 3, 4, 6, 7, 12, 14, 15, 31};
        int next = 0;
        for (int set = 0; set < 32; set++) {
            boolean due = open[next] == set;
            due(13, "isOpen(0, " + set + ")", x.isOpen(0, set), due ? 1 : 0);
            next += due ? 1 : 0;
        }
        for (int s : WRONG_SPACES) {
            due(13, "isOpen(" + s + ", 0)", x.isOpen(s, 0), -1);
            due(13, "isOpen(" + s + ", 32)", x.isOpen(s, 32), -1);
        }
        for (int set : WRONG_SETS) {
            due(13, "isOpen(0, " + set + ")", x.isOpen(0, set), -2);
        }
    }

    private static void openAt() {
        PointSpaces x = arms();
        int[] open = {0, 2, 3, 4, 6, 7, 12, 14, 15, 31};
        for (int k = 0; k < open.length; k++) {
            due(14, "openAt(0, " + k + ")", x.openAt(0, k), open[k]);
        }
        for (int k : new int[] {10, 11, 32, -1, -2, LOW, HIGH}) {
            due(14, "openAt(0, " + k + ")", x.openAt(0, k), -3);
        }
        x.loose(1);
        for (int k = 0; k < 32; k++) {
            due(14, "openAt(1, " + k + ") in loose", x.openAt(1, k), k);
        }
        due(14, "openAt(1, 32) in loose", x.openAt(1, 32), -3);
        for (int s : WRONG_SPACES) {
            due(14, "openAt(" + s + ", 0)", x.openAt(s, 0), -1);
            due(14, "openAt(" + s + ", -1)", x.openAt(s, -1), -1);
        }
    }

    private static void inner() {
        PointSpaces x = arms();
        int[][] rows = {{0, 0}, {1, 0}, {5, 4}, {8, 0}, {11, 3}, {16, 0}, {22, 6}, {30, 14}, {15, 15}, {31, 31}};
        for (int[] row : rows) {
            due(15, "inner(0, " + row[0] + ")", x.inner(0, row[0]), row[1]);
        }
        due(15, "inner(1, 30) in plain", x.inner(1, 30), 0);
        x.loose(1);
        due(15, "inner(1, 21) in loose", x.inner(1, 21), 21);
        for (int s : WRONG_SPACES) {
            due(15, "inner(" + s + ", 0)", x.inner(s, 0), -1);
            due(15, "inner(" + s + ", 32)", x.inner(s, 32), -1);
        }
        for (int set : WRONG_SETS) {
            due(15, "inner(0, " + set + ")", x.inner(0, set), -2);
        }
    }

    private static void closure() {
        PointSpaces x = arms();
        int[][] rows = {{0, 0}, {1, 17}, {2, 19}, {4, 28}, {8, 24}, {16, 16}, {6, 31}, {9, 25}, {3, 19}, {31, 31}};
        for (int[] row : rows) {
            due(16, "closure(0, " + row[0] + ")", x.closure(0, row[0]), row[1]);
        }
        due(16, "closure(1, 1) in plain", x.closure(1, 1), 31);
        due(16, "closure(1, 0) in plain", x.closure(1, 0), 0);
        x.loose(1);
        due(16, "closure(1, 21) in loose", x.closure(1, 21), 21);
        for (int s : WRONG_SPACES) {
            due(16, "closure(" + s + ", 0)", x.closure(s, 0), -1);
            due(16, "closure(" + s + ", 32)", x.closure(s, 32), -1);
        }
        for (int set : WRONG_SETS) {
            due(16, "closure(0, " + set + ")", x.closure(0, set), -2);
        }
    }

    private static void around() {
        PointSpaces x = arms();
        x.loose(2);
        int[] due = {3, 2, 4, 12, 31};
        for (int point = 0; point < 5; point++) {
            due(17, "around(0, " + point + ")", x.around(0, point), due[point]);
            due(17, "around(1, " + point + ") in plain", x.around(1, point), 31);
            due(17, "around(2, " + point + ") in loose", x.around(2, point), 1 << point);
        }
        for (int s : WRONG_SPACES) {
            due(17, "around(" + s + ", 0)", x.around(s, 0), -1);
            due(17, "around(" + s + ", 5)", x.around(s, 5), -1);
        }
        for (int point : WRONG_POINTS) {
            due(17, "around(0, " + point + ")", x.around(0, point), -2);
        }
    }

    private static void dense() {
        PointSpaces x = arms();
        x.loose(2);
        due(18, "dense(0)", x.dense(0), 8);
        due(18, "dense(1) in plain", x.dense(1), 31);
        due(18, "dense(2) in loose", x.dense(2), 1);
        due(18, "dense(0) in steps", steps().dense(0), 16);
        for (int s : WRONG_SPACES) {
            due(18, "dense(" + s + ")", x.dense(s), -1);
        }
    }

    private static void piece() {
        PointSpaces x = with(1, 30, 6);
        x.loose(2);
        add(x, 1, 3, 28);
        int[] one = {1, 30, 30, 30, 30};
        int[] two = {3, 3, 28, 28, 28};
        for (int point = 0; point < 5; point++) {
            due(19, "piece(0, " + point + ")", x.piece(0, point), one[point]);
            due(19, "piece(1, " + point + ")", x.piece(1, point), two[point]);
            due(19, "piece(2, " + point + ") in loose", x.piece(2, point), 1 << point);
            due(19, "piece(0, " + point + ") in arms", arms().piece(0, point), 31);
            due(19, "piece(0, " + point + ") in plain", new PointSpaces().piece(0, point), 31);
        }
        for (int s : WRONG_SPACES) {
            due(19, "piece(" + s + ", 0)", x.piece(s, 0), -1);
            due(19, "piece(" + s + ", 5)", x.piece(s, 5), -1);
        }
        for (int point : WRONG_POINTS) {
            due(19, "piece(0, " + point + ")", x.piece(0, point), -2);
        }
    }

    private static void kind() {
        due(20, "kind of plain", new PointSpaces().kind(0), 12);
        due(20, "kind of loose", withLoose().kind(0), 11);
        due(20, "kind of steps", steps().kind(0), 4);
        due(20, "kind of arms", arms().kind(0), 5);
        due(20, "kind of two blocks", with(3, 28).kind(0), 8);
        due(20, "kind of a part and a pair", with(1, 30, 6).kind(0), 0);
        due(20, "kind of a part and a chain", with(1, 30, 2, 6, 14).kind(0), 1);
        for (int a = 0; a < 5; a++) {
            for (int b = 0; b < 5; b++) {
                PointSpaces x = withLoose();
                x.tie(0, a, b);
                due(20, "kind of loose with " + a + " tied to " + b, x.kind(0), a == b ? 11 : 1);
                x.tie(0, b, a);
                due(20, "kind of loose with " + a + " and " + b + " alike", x.kind(0), a == b ? 11 : 8);
            }
        }
        for (int s : WRONG_SPACES) {
            due(20, "kind(" + s + ")", new PointSpaces().kind(s), -1);
        }
    }

    private static void continuous() {
        PointSpaces x = steps();
        due(21, "continuous(0, 0, 2930)", x.continuous(0, 0, 2930), 1);
        due(21, "continuous(0, 1, 2930) to plain", x.continuous(0, 1, 2930), 1);
        due(21, "continuous(1, 0, 2930) from plain", x.continuous(1, 0, 2930), 0);
        due(21, "continuous(1, 0, 0)", x.continuous(1, 0, 0), 1);
        due(21, "continuous(1, 0, 3124)", x.continuous(1, 0, 3124), 1);
        due(21, "continuous, order kept", x.continuous(0, 0, map(0, 0, 2, 4, 4)), 1);
        due(21, "continuous, like points parted", x.continuous(0, 0, map(0, 0, 2, 2, 4)), 0);
        due(21, "continuous, order broken", x.continuous(0, 0, map(1, 0, 2, 3, 4)), 0);
        due(21, "continuous, like points exchanged", x.continuous(0, 0, map(0, 1, 2, 4, 3)), 1);
        for (int s : WRONG_SPACES) {
            due(21, "continuous(" + s + ", 0, 0)", x.continuous(s, 0, 0), -1);
            due(21, "continuous(0, " + s + ", 0)", x.continuous(0, s, 0), -1);
            due(21, "continuous(0, " + s + ", -1)", x.continuous(0, s, -1), -1);
        }
        for (int map : WRONG_MAPS) {
            due(21, "continuous(0, 0, " + map + ")", x.continuous(0, 0, map), -2);
        }
    }

    private static void maps() {
        PointSpaces x = steps();
        x.loose(2);
        due(22, "maps(1, 1) plain to plain", x.maps(1, 1), 3125);
        due(22, "maps(2, 0) from loose", x.maps(2, 0), 3125);
        due(22, "maps(0, 1) to plain", x.maps(0, 1), 3125);
        due(22, "maps(1, 2) plain to loose", x.maps(1, 2), 5);
        due(22, "maps(1, 0) plain to steps", x.maps(1, 0), 35);
        due(22, "maps(2, 2) loose to loose", x.maps(2, 2), 3125);
        for (int s : WRONG_SPACES) {
            due(22, "maps(" + s + ", 0)", x.maps(s, 0), -1);
            due(22, "maps(0, " + s + ")", x.maps(0, s), -1);
        }
    }

    private static void same() {
        PointSpaces x = steps();
        x.loose(2);
        due(23, "same(0, 0)", x.same(0, 0), 2);
        due(23, "same(1, 1)", x.same(1, 1), 120);
        due(23, "same(2, 2)", x.same(2, 2), 120);
        due(23, "same(2, 1) loose to plain", x.same(2, 1), 0);
        due(23, "same(1, 2) plain to loose", x.same(1, 2), 0);
        PointSpaces y = with(1);
        y.open(1, 16);
        y.open(2, 3);
        due(23, "same(0, 1), a point each", y.same(0, 1), 24);
        due(23, "same(0, 2), a point and two", y.same(0, 2), 0);
        due(23, "same(2, 2), two points", y.same(2, 2), 12);
        for (int s : WRONG_SPACES) {
            due(23, "same(" + s + ", 0)", x.same(s, 0), -1);
            due(23, "same(0, " + s + ")", x.same(0, s), -1);
        }
    }

    private static void chains() {
        int[] inSteps = {0, 5, 9, 7, 2, 0, 0};
        int[] inArms = {0, 5, 6, 2, 0, 0, 0};
        int[] inFullChain = {0, 5, 10, 10, 5, 1, 0};
        int[] inPlainOrLoose = {0, 5, 0, 0, 0, 0, 0};
        for (int k = 0; k <= 6; k++) {
            due(24, "chains(0, " + k + ") in steps", steps().chains(0, k), inSteps[k]);
            due(24, "chains(0, " + k + ") in arms", arms().chains(0, k), inArms[k]);
            due(24, "chains(0, " + k + ") in a chain", with(1, 3, 7, 15).chains(0, k), inFullChain[k]);
            due(24, "chains(0, " + k + ") in plain", new PointSpaces().chains(0, k), inPlainOrLoose[k]);
            due(24, "chains(0, " + k + ") in loose", withLoose().chains(0, k), inPlainOrLoose[k]);
        }
        for (int k : new int[] {-1, 7, 32, LOW, HIGH}) {
            due(24, "chains(0, " + k + ")", steps().chains(0, k), 0);
        }
        for (int s : WRONG_SPACES) {
            due(24, "chains(" + s + ", 1)", steps().chains(s, 1), -1);
            due(24, "chains(" + s + ", 0)", steps().chains(s, 0), -1);
        }
    }

    private static void needed() {
        due(25, "needed of plain", new PointSpaces().needed(0), 0);
        due(25, "needed of one set", with(5).needed(0), 1);
        due(25, "needed of two steps", with(1, 3).needed(0), 2);
        due(25, "needed of two blocks", with(3, 28).needed(0), 2);
        due(25, "needed of three blocks", with(1, 2, 28).needed(0), 3);
        due(25, "needed of four blocks", with(1, 2, 4, 24).needed(0), 4);
        due(25, "needed of steps", steps().needed(0), 3);
        due(25, "needed of arms", arms().needed(0), 3);
        due(25, "needed of a chain", with(1, 3, 7, 15).needed(0), 4);
        due(25, "needed of a chain of four and a point", with(1, 3, 7, 15, 16).needed(0), 5);
        due(25, "needed of three points below a like pair", with(1, 2, 4).needed(0), 3);
        due(25, "needed of loose", withLoose().needed(0), 4);
        for (int s : WRONG_SPACES) {
            due(25, "needed(" + s + ")", new PointSpaces().needed(s), -1);
        }
    }

    private static void refusedCallsAndQuestionsChangeNothing() {
        PointSpaces x = steps();
        x.loose(1);
        add(x, 2, 3, 12, 6);
        int[] before = {family(x, 0), family(x, 1), family(x, 2)};
        for (int s : new int[] {-1, 3}) {
            refusals(x, s);
        }
        for (int s = 0; s < 3; s++) {
            wrongArguments(x, s);
            questions(x, s);
        }
        for (int s = 0; s < 3; s++) {
            due(0, "open sets of " + s + " after refusals and questions", family(x, s), before[s]);
        }
    }

    private static void refusals(PointSpaces x, int s) {
        x.plain(s);
        x.loose(s);
        x.open(s, 16);
        x.tie(s, 0, 1);
        x.turn(s);
        for (int t = 0; t < 3; t++) {
            x.copy(s, t);
            x.copy(t, s);
            x.join(s, t);
            x.join(t, s);
            x.meet(s, t);
            x.meet(t, s);
            x.pull(s, t, 7);
            x.pull(t, s, 7);
            x.push(s, t, 7);
            x.push(t, s, 7);
        }
    }

    private static void wrongArguments(PointSpaces x, int s) {
        x.open(s, -1);
        x.open(s, 32);
        x.tie(s, 0, 5);
        x.tie(s, 5, 0);
        x.tie(s, 0, -1);
        x.tie(s, -1, 0);
        x.pull(s, (s + 1) % 3, 3125);
        x.pull(s, (s + 1) % 3, -1);
        x.push(s, (s + 1) % 3, 3125);
        x.push(s, (s + 1) % 3, -1);
    }

    private static void questions(PointSpaces x, int s) {
        x.opens(s);
        x.isOpen(s, 9);
        x.openAt(s, 2);
        x.inner(s, 9);
        x.closure(s, 9);
        x.around(s, 3);
        x.dense(s);
        x.piece(s, 3);
        x.kind(s);
        x.continuous(s, (s + 1) % 3, 7);
        x.maps(s, (s + 1) % 3);
        x.same(s, (s + 1) % 3);
        x.chains(s, 2);
        x.needed(s);
    }
}
