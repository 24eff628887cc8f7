import java.util.ArrayList;
import java.util.HashMap;
import java.util.List;
import java.util.Map;

/**
 * The sentences of the document, and the rules of LANGUAGE.md that only calls
 * can tell, for which the other tests have no test of their own. What is due
 * is worked out from isOpen alone, or is known from elsewhere.
 */
public final class SentencesTest {
    private static final String[] MAKING = "plain loose open tie turn copy join meet pull push".split(" ");
    private static final String[] ASKING = ("opens isOpen openAt inner closure around dense piece kind"
            + " continuous maps same chains needed").split(" ");
    private static final String SPACE_ALONE = " plain loose turn opens dense kind needed ";
    private static final String SPACE_AND_SET = " open isOpen inner closure openAt chains ";
    private static final String SPACE_AND_POINT = " around piece ";
    private static final String TWO_SPACES = " copy join meet maps same ";

    /** Each row makes a space by open from plain; the turned ones are taken, too. */
    private static final int[][] WAYS = {
        {}, {1}, {16}, {3}, {30}, {1, 3}, {1, 2}, {3, 28}, {1, 30}, {1, 3, 7}, {3, 12, 6}, {3, 12, 22},
        {1, 30, 6}, {1, 2, 28}, {1, 3, 7, 15}, {1, 3, 7, 15, 16}, {1, 2, 4, 24}, {1, 2, 4, 8}, {1, 2, 4, 8, 16},
        {5, 10}, {21, 14}, {17, 3, 24, 12}, {7, 25, 10, 20}
    };
    private static final int SPACES = 2 * WAYS.length;

    private static String sentence = "";
    private static int sentences = 0;
    private static int wrong = 0;

    public static void main(String[] args) {
        closedIfThePointsNotInItAreOpen();
        innerPartHoldsEveryOpenSetWithin();
        closureLiesInEveryClosedSetThatHoldsIt();
        whatComesToASet();
        continuousIfWhatComesToEachOpenSetIsOpen();
        makingChangesSpaceSAlone();
        eachQuestionChangesNothing();
        aroundLiesInEveryOpenSetWithThePoint();
        pieceLiesInEverySetOpenAndClosed();
        denseCountsClosures();
        mapsCountsContinuous();
        sameCountsBothWays();
        countsKnownFromElsewhere();
        noCallEverThrows();
        theSameCallsGiveTheSameAnswers();
        objectsDoNotMeet();
        System.out.println(wrong == 0 ? sentences + " sentences hold" : wrong + " answers are not as due");
        if (wrong != 0) {
            System.exit(1);
        }
    }

    // What is due, and how spaces are made.

    private static void sentence(String words) {
        sentence = words;
        sentences++;
    }

    private static void due(String call, int got, int want) {
        if (got != want && wrong++ < 100) {
            System.out.println("\"" + sentence + "\": " + call + " answered " + got + ", due is " + want);
        }
    }

    private static void require(String what, boolean holds) {
        due(what, holds ? 1 : 0, 1);
    }

    private static void make(PointSpaces x, int s, int number) {
        x.plain(s);
        for (int set : WAYS[number / 2]) {
            x.open(s, set);
        }
        if (number % 2 == 1) {
            x.turn(s);
        }
    }

    private static PointSpaces space(int number) {
        PointSpaces x = new PointSpaces();
        make(x, 0, number);
        return x;
    }

    private static boolean[] open(PointSpaces x, int s) {
        boolean[] open = new boolean[32];
        for (int set = 0; set < 32; set++) {
            open[set] = x.isOpen(s, set) == 1;
        }
        return open;
    }

    private static boolean[] closed(boolean[] open) {
        boolean[] closed = new boolean[32];
        for (int set = 0; set < 32; set++) {
            closed[set] = open[31 - set];
        }
        return closed;
    }

    private static int family(PointSpaces x, int s) {
        int family = 0;
        for (int set = 0; set < 32; set++) {
            family |= x.isOpen(s, set) << set;
        }
        return family;
    }

    private static boolean within(int small, int great) {
        return (small | great) == great;
    }

    private static int value(int map, int x) {
        return new int[] {map % 5, map / 5 % 5, map / 25 % 5, map / 125 % 5, map / 625}[x];
    }

    private static int comesTo(int set, int map) {
        int coming = 0;
        for (int x = 0; x < 5; x++) {
            coming += (set >> value(map, x)) % 2 == 1 ? 1 << x : 0;
        }
        return coming;
    }

    private static int taken(int set, int map) {
        int taken = 0;
        for (int x = 0; x < 5; x++) {
            taken |= (set >> x) % 2 == 1 ? 1 << value(map, x) : 0;
        }
        return taken;
    }

    private static boolean isContinuous(boolean[] s, boolean[] t, int map) {
        for (int set = 0; set < 32; set++) {
            if (t[set] && !s[comesTo(set, map)]) {
                return false;
            }
        }
        return true;
    }

    // Terms.

    private static void closedIfThePointsNotInItAreOpen() {
        sentence("a set is CLOSED if the points not in it are an open set");
        for (int number = 0; number < SPACES; number++) {
            PointSpaces x = space(number);
            boolean[] closed = closed(open(x, 0));
            for (int set = 0; set < 32; set++) {
                require("closure of " + set + " in space " + number, closed[set] == (x.closure(0, set) == set));
            }
            x.turn(0);
            for (int set = 0; set < 32; set++) {
                require("isOpen after turn, " + set + " in space " + number, closed[set] == (x.isOpen(0, set) == 1));
            }
        }
    }

    private static void innerPartHoldsEveryOpenSetWithin() {
        sentence("THE INNER PART of a set is the greatest open set within it");
        for (int number = 0; number < SPACES; number++) {
            PointSpaces x = space(number);
            boolean[] open = open(x, 0);
            for (int set = 0; set < 32; set++) {
                int inner = x.inner(0, set);
                require("inner " + set + " in space " + number, open[inner] && within(inner, set));
                for (int other = 0; other < 32; other++) {
                    require("inner " + set + " and " + other, !open[other] || !within(other, set) || within(other, inner));
                }
            }
        }
    }

    private static void closureLiesInEveryClosedSetThatHoldsIt() {
        sentence("its CLOSURE the least closed set that holds it");
        for (int number = 0; number < SPACES; number++) {
            PointSpaces x = space(number);
            boolean[] closed = closed(open(x, 0));
            for (int set = 0; set < 32; set++) {
                int closure = x.closure(0, set);
                require("closure " + set + " in space " + number, closed[closure] && within(set, closure));
                for (int other = 0; other < 32; other++) {
                    require("closure " + set + " and " + other,
                            !closed[other] || !within(set, other) || within(closure, other));
                }
            }
        }
    }

    private static void whatComesToASet() {
        sentence("The set of all x with f(x) in a set V is what COMES TO V");
        for (int set = 1; set < 31; set++) {
            for (int map = 0; map < 3125; map++) {
                PointSpaces x = new PointSpaces();
                x.open(0, set);
                x.pull(1, 0, map);
                int coming = comesTo(set, map);
                due("isOpen of what comes to " + set + " by " + map, x.isOpen(1, coming), 1);
                due("opens beside it", x.opens(1), coming == 0 || coming == 31 ? 2 : 3);
                x.plain(2);
                x.open(2, coming);
                x.push(2, 2, map);
                due("isOpen of the set to which it comes", x.isOpen(2, set), 1);
            }
        }
    }

    private static void continuousIfWhatComesToEachOpenSetIsOpen() {
        sentence("A map is CONTINUOUS from space s to space t if what comes to V is open in s for every V open in t");
        for (int number = 0; number < SPACES; number++) {
            for (int first = 0; first < 3125; first += 125) {
                checkContinuous(number, first, first + 125);
            }
        }
    }

    /** So few maps that the object does not go past its 512th call. */
    private static void checkContinuous(int number, int first, int end) {
        PointSpaces x = space(number);
        make(x, 1, (number * 7 + 5) % SPACES);
        boolean[] s = open(x, 0);
        boolean[] t = open(x, 1);
        for (int map = first; map < end; map++) {
            due("continuous(0, 1, " + map + ") " + number, x.continuous(0, 1, map), isContinuous(s, t, map) ? 1 : 0);
            due("continuous(1, 0, " + map + ") " + number, x.continuous(1, 0, map), isContinuous(t, s, map) ? 1 : 0);
            due("continuous(0, 0, " + map + ") " + number, x.continuous(0, 0, map), isContinuous(s, s, map) ? 1 : 0);
        }
    }

    private static void makingChangesSpaceSAlone() {
        sentence("making spaces; each answers how many open sets space s has then");
        for (String name : MAKING) {
            for (int s = 0; s < 3; s++) {
                for (int t = 0; t < 3; t++) {
                    for (int number = 0; number < SPACES; number++) {
                        checkOthersStay(name, s, t, number);
                    }
                }
            }
        }
    }

    private static void checkOthersStay(String name, int s, int t, int number) {
        PointSpaces x = threeSpaces(number);
        int[] before = {family(x, 0), family(x, 1), family(x, 2)};
        int answer = call(x, name, s, t, 1 + number % 30, number % 5, (number + 2) % 5, number * 67 % 3125);
        due(name + " of " + s + " and " + t, answer, Integer.bitCount(family(x, s)));
        for (int other = 0; other < 3; other++) {
            if (other != s) {
                due(name + " of " + s + " and " + t + ": space " + other, family(x, other), before[other]);
            }
        }
    }

    private static PointSpaces threeSpaces(int number) {
        PointSpaces x = space(number);
        make(x, 1, (number + 11) % SPACES);
        make(x, 2, (number + 23) % SPACES);
        return x;
    }

    private static void eachQuestionChangesNothing() {
        sentence("questions; they change nothing");
        for (String name : ASKING) {
            for (int s = 0; s < 3; s++) {
                for (int number = 0; number < SPACES; number++) {
                    checkAllStay(name, s, number);
                }
            }
        }
    }

    private static void checkAllStay(String name, int s, int number) {
        PointSpaces x = threeSpaces(number);
        int[] before = {family(x, 0), family(x, 1), family(x, 2)};
        for (int t = 0; t < 3; t++) {
            int first = call(x, name, s, t, number % 32, number % 5, 0, number * 67 % 3125);
            int again = call(x, name, s, t, number % 32, number % 5, 0, number * 67 % 3125);
            due(name + " asked again", again, first);
        }
        for (int other = 0; other < 3; other++) {
            due(name + " of " + s + ": space " + other, family(x, other), before[other]);
        }
    }

    // Promises 17 to 23, by their definitions.

    private static void aroundLiesInEveryOpenSetWithThePoint() {
        sentence("The least open set that has a point");
        for (int number = 0; number < SPACES; number++) {
            PointSpaces x = space(number);
            boolean[] open = open(x, 0);
            for (int point = 0; point < 5; point++) {
                requireLeast("around " + point + " in space " + number, x.around(0, point), point, open);
            }
        }
    }

    private static void pieceLiesInEverySetOpenAndClosed() {
        sentence("The least set that has a point and is both open and closed");
        for (int number = 0; number < SPACES; number++) {
            PointSpaces x = space(number);
            boolean[] both = open(x, 0);
            boolean[] closed = closed(both);
            for (int set = 0; set < 32; set++) {
                both[set] &= closed[set];
            }
            for (int point = 0; point < 5; point++) {
                requireLeast("piece " + point + " in space " + number, x.piece(0, point), point, both);
            }
        }
    }

    private static void requireLeast(String what, int answer, int point, boolean[] family) {
        require(what + " has the point", family[answer] && within(1 << point, answer));
        for (int set = 0; set < 32; set++) {
            require(what + " lies in " + set, !family[set] || !within(1 << point, set) || within(answer, set));
        }
    }

    private static void denseCountsClosures() {
        sentence("How many sets have the closure 31");
        for (int number = 0; number < SPACES; number++) {
            PointSpaces x = space(number);
            boolean[] open = open(x, 0);
            int count = 0;
            for (int set = 0; set < 32; set++) {
                boolean meetsAll = true;
                for (int other = 1; other < 32; other++) {
                    meetsAll &= !open[other] || (set & other) != 0;
                }
                count += meetsAll ? 1 : 0;
            }
            due("dense in space " + number, x.dense(0), count);
        }
    }

    private static void mapsCountsContinuous() {
        sentence("How many maps are continuous from s to t");
        for (int number = 0; number < SPACES; number++) {
            PointSpaces x = threeSpaces(number);
            for (int s = 0; s < 3; s++) {
                int t = (s + number) % 3;
                boolean[] from = open(x, s);
                boolean[] to = open(x, t);
                int count = 0;
                for (int map = 0; map < 3125; map++) {
                    count += isContinuous(from, to, map) ? 1 : 0;
                }
                due("maps(" + s + ", " + t + ") in spaces " + number, x.maps(s, t), count);
            }
        }
    }

    private static void sameCountsBothWays() {
        sentence("How many maps that take different points to different points are continuous, and ...");
        for (int number = 0; number < SPACES; number++) {
            PointSpaces x = space(number);
            x.pull(1, 0, number * 136 % 3125);
            x.pull(2, 0, 4 + 5 * 2 + 25 * 0 + 125 * 1 + 625 * 3);
            boolean[] from = open(x, 0);
            for (int t = 0; t < 3; t++) {
                boolean[] to = open(x, t);
                due("same(0, " + t + ") " + number, x.same(0, t), countSame(from, to));
                due("same(" + t + ", 0) " + number, x.same(t, 0), countSame(to, from));
            }
        }
    }

    private static int countSame(boolean[] s, boolean[] t) {
        int count = 0;
        for (int map = 0; map < 3125; map++) {
            boolean holds = taken(31, map) == 31 && isContinuous(s, t, map);
            for (int set = 0; set < 32 && holds; set++) {
                holds = !s[set] || t[taken(set, map)];
            }
            count += holds ? 1 : 0;
        }
        return count;
    }

    /**
     * Of the 6942 spaces on five points, 139 are left if spaces that differ
     * only by the points' names are taken as one: 16680 / 120, by counting the
     * namings that leave a space as it is. In 4231 no two points are alike, in
     * 4851 there is one piece alone, in 52 every open set is closed (the ways
     * to part five points), and in one each point is closed.
     */
    private static void countsKnownFromElsewhere() {
        sentence("A SPACE is a family of sets: counts over all spaces on five points");
        List<Integer> families = allFamilies();
        due("spaces", families.size(), 6942);
        int[] kinds = new int[4];
        int same = 0;
        for (int family : families) {
            PointSpaces x = ofFamily(family);
            due("family", family(x, 0), family);
            for (int part = 0; part < 4; part++) {
                kinds[part] += x.kind(0) >> part & 1;
            }
            same += x.same(0, 0);
        }
        due("spaces with the 1 in kind", kinds[0], 4231);
        due("spaces with the 2 in kind", kinds[1], 1);
        due("spaces with the 4 in kind", kinds[2], 4851);
        due("spaces with the 8 in kind", kinds[3], 52);
        due("same(0, 0), summed", same, 120 * 139);
    }

    /** Found by open alone, from plain on. */
    private static List<Integer> allFamilies() {
        List<Integer> families = new ArrayList<>();
        Map<Integer, Boolean> seen = new HashMap<>();
        families.add(1 | 1 << 31);
        seen.put(1 | 1 << 31, true);
        for (int i = 0; i < families.size(); i++) {
            for (int set = 1; set < 31; set++) {
                if ((families.get(i) >> set & 1) == 0) {
                    PointSpaces x = ofFamily(families.get(i));
                    x.open(0, set);
                    int finer = family(x, 0);
                    if (seen.put(finer, true) == null) {
                        families.add(finer);
                    }
                }
            }
        }
        return families;
    }

    private static PointSpaces ofFamily(int family) {
        PointSpaces x = new PointSpaces();
        for (int set = 1; set < 31; set++) {
            if ((family >> set & 1) == 1 && x.isOpen(0, set) == 0) {
                x.open(0, set);
            }
        }
        return x;
    }

    // Rules 7 and 11 of LANGUAGE.md.

    private static void noCallEverThrows() {
        sentence("No call may ever throw or fail to end, for any arguments in any state");
        int[] extremes = {Integer.MIN_VALUE, -65536, -32, -5, -1, 0, 1, 2, 3, 4, 5, 30, 31, 32, 33, 780, 3124, 3125,
            3126, 65536, 1 << 30, Integer.MAX_VALUE};
        int row = 0;
        for (int number = 0; number < SPACES; number++) {
            PointSpaces x = threeSpaces(number);
            for (int i = 0; i < 3000; i++) {
                row = row * 1103515245 + 12345;
                int s = extremes[(row >>> 8) % extremes.length];
                int t = extremes[(row >>> 12) % extremes.length];
                int third = extremes[(row >>> 16) % extremes.length];
                String name = i % 2 == 0 ? MAKING[(row >>> 5) % 10] : ASKING[(row >>> 5) % 14];
                int answer = call(x, name, s, t, t, t, third, third);
                // After the 512th call it is free what is answered, but not whether something is.
                require(name + " of " + s + ", " + t + ", " + third + ": " + answer,
                        i > 450 || answer >= -3 && answer <= 3125);
            }
        }
    }

    private static void theSameCallsGiveTheSameAnswers() {
        sentence("the same calls always give the same answers");
        for (int number = 0; number < SPACES; number++) {
            int[] first = answers(number, new PointSpaces(), null);
            int[] second = answers(number, new PointSpaces(), null);
            for (int i = 0; i < first.length; i++) {
                due("call " + i + " of row " + number, second[i], first[i]);
            }
        }
    }

    private static void objectsDoNotMeet() {
        sentence("An object is used ...: whatever is done with another one");
        for (int number = 0; number < SPACES; number++) {
            int[] alone = answers(number, new PointSpaces(), null);
            int[] beside = answers(number, new PointSpaces(), new PointSpaces());
            for (int i = 0; i < alone.length; i++) {
                due("call " + i + " of row " + number, beside[i], alone[i]);
            }
        }
    }

    /** A row of 512 calls; another object, if there is one, is called between them. */
    private static int[] answers(int seed, PointSpaces x, PointSpaces other) {
        int[] answers = new int[512];
        int row = seed;
        for (int i = 0; i < answers.length; i++) {
            row = row * 1103515245 + 12345;
            int n = row >>> 4;
            String name = i % 3 == 2 ? ASKING[n % 14] : MAKING[2 + n % 8];
            answers[i] = call(x, name, n % 3, n / 3 % 3, n / 9 % 32, n / 288 % 5, n / 1440 % 5, n / 7200 % 3125);
            if (other != null) {
                call(other, MAKING[n / 10 % 10], n / 3 % 3, n % 3, n / 11 % 32, n / 290 % 5, n % 5, n % 3125);
            }
        }
        return answers;
    }

    /** Calls a method by its name with those of the numbers that it takes. */
    private static int call(PointSpaces x, String name, int s, int t, int set, int a, int b, int map) {
        String word = " " + name + " ";
        if (SPACE_ALONE.contains(word)) {
            return callWith(x, name, s, 0, 0);
        }
        if (SPACE_AND_SET.contains(word)) {
            return callWith(x, name, s, set, 0);
        }
        if (SPACE_AND_POINT.contains(word)) {
            return callWith(x, name, s, a, 0);
        }
        if (name.equals("tie")) {
            return callWith(x, name, s, a, b);
        }
        return callWith(x, name, s, t, TWO_SPACES.contains(word) ? 0 : map);
    }

    private static int callWith(PointSpaces x, String name, int a, int b, int c) {
        switch (name) {
            case "plain": return x.plain(a);
            case "loose": return x.loose(a);
            case "open": return x.open(a, b);
            case "tie": return x.tie(a, b, c);
            case "turn": return x.turn(a);
            case "copy": return x.copy(a, b);
            case "join": return x.join(a, b);
            case "meet": return x.meet(a, b);
            case "pull": return x.pull(a, b, c);
            case "push": return x.push(a, b, c);
            case "opens": return x.opens(a);
            case "isOpen": return x.isOpen(a, b);
            case "openAt": return x.openAt(a, b);
            case "inner": return x.inner(a, b);
            case "closure": return x.closure(a, b);
            case "around": return x.around(a, b);
            case "dense": return x.dense(a);
            case "piece": return x.piece(a, b);
            case "kind": return x.kind(a);
            case "continuous": return x.continuous(a, b, c);
            case "maps": return x.maps(a, b);
            case "same": return x.same(a, b);
            case "chains": return x.chains(a, b);
            case "needed": return x.needed(a);
            default: throw new IllegalArgumentException(name);
        }
    }
}
