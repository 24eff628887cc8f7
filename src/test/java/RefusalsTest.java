import java.util.ArrayList;
import java.util.Arrays;
import java.util.List;

/**
 * "A refused call changes nothing. The tests of a call are made in the order
 * in which they are named. A space that is not 0 to 2: -1, tested first; a
 * number that is no set, no point or no map: -2."
 *
 * Every call with every kind of wrong argument, alone and together, each on an
 * object of its own; after it, all three spaces must answer as they do in an
 * object that was spared the call.
 */
public final class RefusalsTest {
    private static final int LOW = Integer.MIN_VALUE;
    private static final int HIGH = Integer.MAX_VALUE;

    private static final int[] SPACES = {0, 1, 2};
    private static final int[] SETS = {0, 31};
    private static final int[] POINTS = {0, 4};
    private static final int[] MAPS = {0, 3124};

    // The last numbers of a row would be allowed ones if they were cut to a few binary digits.
    private static final int[] NO_SPACES = {-1, 3, LOW, HIGH, 256, 65537};
    private static final int[] NO_SETS = {-1, 32, LOW, HIGH, 37, -27, 261, 65541};
    private static final int[] NO_POINTS = {-1, 5, LOW, HIGH, 33, -31, 257, 65537};
    private static final int[] NO_MAPS = {-1, 3125, LOW, HIGH, 3711, -586, 4682, 66122};

    private static final int[] OUTSIDE_SPACES = {-1, 3};
    private static final int[] OUTSIDE_POINTS = {-1, 5};

    // No space of a start has more than 24 open sets.
    private static final int[] NO_PLACES = {-1, LOW, HIGH, 24, 31, 32};
    private static final int[] ANY_K = {0, 1, 5, 6, -1, LOW, HIGH};

    private static final int STARTS = 2;
    private static final int[][] BEFORE = {answers(started(0)), answers(started(1))};

    private static int wrong = 0;
    private static int refusals = 0;

    public static void main(String[] args) {
        spaceAlone();
        spaceAndSet();
        spaceAndPoint();
        spaceAndTwoPoints();
        twoSpaces();
        twoSpacesAndMap();
        spaceAndPlace();
        spaceAndLength();
        numbersNextToTheWrongOnesAreTaken();
        System.out.println(wrong == 0 ? refusals + " refused calls changed nothing" : wrong + " answers are not as due");
        if (wrong != 0) {
            System.exit(1);
        }
    }

    private static void due(String what, int got, int want) {
        if (got != want && wrong++ < 100) {
            System.out.println(what + " answered " + got + ", due is " + want);
        }
    }

    // "A space that is not 0 to 2: -1".
    private static void spaceAlone() {
        for (String name : List.of("plain", "loose", "turn", "opens", "dense", "kind", "needed")) {
            refused(-1, name, NO_SPACES);
        }
    }

    // "Space: -1; set: -2."
    private static void spaceAndSet() {
        for (String name : List.of("open", "isOpen", "inner", "closure")) {
            refused(-1, name, NO_SPACES, SETS);
            refused(-1, name, NO_SPACES, NO_SETS);
            refused(-2, name, SPACES, NO_SETS);
        }
    }

    // "Space: -1; point: -2."
    private static void spaceAndPoint() {
        for (String name : List.of("around", "piece")) {
            refused(-1, name, NO_SPACES, POINTS);
            refused(-1, name, NO_SPACES, NO_POINTS);
            refused(-2, name, SPACES, NO_POINTS);
        }
    }

    // "Space: -1; points: -2."
    private static void spaceAndTwoPoints() {
        refused(-1, "tie", NO_SPACES, POINTS, POINTS);
        refused(-1, "tie", NO_SPACES, OUTSIDE_POINTS, POINTS);
        refused(-1, "tie", NO_SPACES, POINTS, OUTSIDE_POINTS);
        refused(-1, "tie", NO_SPACES, OUTSIDE_POINTS, OUTSIDE_POINTS);
        refused(-2, "tie", SPACES, NO_POINTS, POINTS);
        refused(-2, "tie", SPACES, POINTS, NO_POINTS);
        refused(-2, "tie", SPACES, NO_POINTS, OUTSIDE_POINTS);
    }

    // "Spaces: -1."
    private static void twoSpaces() {
        for (String name : List.of("copy", "join", "meet", "maps", "same")) {
            refused(-1, name, NO_SPACES, SPACES);
            refused(-1, name, SPACES, NO_SPACES);
            refused(-1, name, NO_SPACES, NO_SPACES);
        }
    }

    // "Spaces: -1; map: -2."
    private static void twoSpacesAndMap() {
        for (String name : List.of("pull", "push", "continuous")) {
            refused(-1, name, NO_SPACES, SPACES, MAPS);
            refused(-1, name, SPACES, NO_SPACES, MAPS);
            refused(-1, name, NO_SPACES, OUTSIDE_SPACES, MAPS);
            refused(-1, name, OUTSIDE_SPACES, SPACES, NO_MAPS);
            refused(-1, name, SPACES, OUTSIDE_SPACES, NO_MAPS);
            refused(-1, name, OUTSIDE_SPACES, OUTSIDE_SPACES, NO_MAPS);
            refused(-2, name, SPACES, SPACES, NO_MAPS);
        }
    }

    // "Space: -1; there is none: -3."
    private static void spaceAndPlace() {
        refused(-1, "openAt", NO_SPACES, new int[] {0, 1});
        refused(-1, "openAt", NO_SPACES, NO_PLACES);
        refused(-3, "openAt", SPACES, NO_PLACES);
    }

    // "Space: -1. (0 for a k below 1 or above 5.)" The 0 is no refusal, but it changes nothing either.
    private static void spaceAndLength() {
        refused(-1, "chains", NO_SPACES, ANY_K);
        refused(0, "chains", SPACES, new int[] {0, -1, LOW, 6, HIGH});
    }

    /** The least and the greatest number of each kind, which stand beside -1, 3, 5, 32 and 3125. */
    private static void numbersNextToTheWrongOnesAreTaken() {
        for (int s : new int[] {0, 2}) {
            for (String name : List.of("plain", "loose", "turn", "opens", "dense", "kind", "needed")) {
                taken(name, s);
            }
            for (int set : SETS) {
                for (String name : List.of("open", "isOpen", "inner", "closure")) {
                    taken(name, s, set);
                }
            }
            for (int point : POINTS) {
                taken("around", s, point);
                taken("piece", s, point);
                taken("tie", s, point, 4 - point);
            }
            for (int t : new int[] {0, 2}) {
                for (String name : List.of("copy", "join", "meet", "maps", "same")) {
                    taken(name, s, t);
                }
                for (int map : MAPS) {
                    taken("pull", s, t, map);
                    taken("push", s, t, map);
                    taken("continuous", s, t, map);
                }
            }
        }
    }

    private static void taken(String name, int... arguments) {
        int answer = call(started(1), name, arguments);
        if (answer < 0) {
            due(name + Arrays.toString(arguments) + ", which is to be taken,", answer, 0);
        }
    }

    /** Tries every choice of one number from each row. */
    private static void refused(int answer, String name, int[]... rows) {
        int choices = 1;
        for (int[] row : rows) {
            choices *= row.length;
        }
        for (int choice = 0; choice < choices; choice++) {
            int[] arguments = new int[rows.length];
            int rest = choice;
            for (int i = 0; i < rows.length; i++) {
                arguments[i] = rows[i][rest % rows[i].length];
                rest /= rows[i].length;
            }
            for (int start = 0; start < STARTS; start++) {
                refusedOnce(answer, start, name, arguments);
            }
        }
    }

    private static void refusedOnce(int answer, int start, String name, int[] arguments) {
        refusals++;
        String told = name + Arrays.toString(arguments) + " at start " + start;
        PointSpaces x = started(start);
        due(told, call(x, name, arguments), answer);
        int[] after = answers(x);
        for (int i = 0; i < after.length; i++) {
            due("question " + i + " after " + told, after[i], BEFORE[start][i]);
        }
    }

    /** Start 0 is a new object; in start 1 no two spaces are alike, and none is plain or loose. */
    private static PointSpaces started(int start) {
        PointSpaces x = new PointSpaces();
        if (start == 1) {
            x.open(0, 1);
            x.open(0, 3);
            x.open(0, 7);
            x.open(1, 3);
            x.open(1, 12);
            x.open(1, 6);
            x.loose(2);
            x.tie(2, 3, 1);
        }
        return x;
    }

    /** Some 450 answers, so that an object does not go past its 512th call. */
    private static int[] answers(PointSpaces x) {
        List<Integer> all = new ArrayList<>();
        for (int s : SPACES) {
            for (int set = 0; set < 32; set++) {
                all.addAll(List.of(x.isOpen(s, set), x.openAt(s, set), x.inner(s, set), x.closure(s, set)));
            }
            for (int point = 0; point < 5; point++) {
                all.addAll(List.of(x.around(s, point), x.piece(s, point), x.chains(s, point + 1)));
            }
            all.addAll(List.of(x.opens(s), x.dense(s), x.kind(s), x.needed(s)));
        }
        all.addAll(List.of(x.maps(0, 1), x.maps(1, 2), x.same(0, 0), x.same(2, 2), x.continuous(2, 0, 586)));
        all.addAll(List.of(x.meet(2, 1), x.pull(1, 0, 586), x.join(0, 1)));
        return all.stream().mapToInt(Integer::intValue).toArray();
    }

    private static int call(PointSpaces x, String name, int[] a) {
        switch (name) {
            case "plain": return x.plain(a[0]);
            case "loose": return x.loose(a[0]);
            case "open": return x.open(a[0], a[1]);
            case "tie": return x.tie(a[0], a[1], a[2]);
            case "turn": return x.turn(a[0]);
            case "copy": return x.copy(a[0], a[1]);
            case "join": return x.join(a[0], a[1]);
            case "meet": return x.meet(a[0], a[1]);
            case "pull": return x.pull(a[0], a[1], a[2]);
            case "push": return x.push(a[0], a[1], a[2]);
            case "opens": return x.opens(a[0]);
            case "isOpen": return x.isOpen(a[0], a[1]);
            case "openAt": return x.openAt(a[0], a[1]);
            case "inner": return x.inner(a[0], a[1]);
            case "closure": return x.closure(a[0], a[1]);
            case "around": return x.around(a[0], a[1]);
            case "dense": return x.dense(a[0]);
            case "piece": return x.piece(a[0], a[1]);
            case "kind": return x.kind(a[0]);
            case "continuous": return x.continuous(a[0], a[1], a[2]);
            case "maps": return x.maps(a[0], a[1]);
            case "same": return x.same(a[0], a[1]);
            case "chains": return x.chains(a[0], a[1]);
            case "needed": return x.needed(a[0]);
            default: throw new IllegalArgumentException(name);
        }
    }
}
