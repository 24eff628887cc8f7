import java.util.Arrays;

/**
 * The sentences of the document that name a boundary case, in its order, each
 * with a test of its own. RefusalsTest has those on refused calls.
 */
public final class BoundariesTest {
    private static final int LOW = Integer.MIN_VALUE;
    private static final int HIGH = Integer.MAX_VALUE;
    private static final int[] PLAIN = {0, 31};
    private static final int[] LOOSE = numbersBelow(32);
    private static final int[] STEPS = {0, 1, 3, 7, 31};
    private static final int[] ARMS = {0, 2, 3, 4, 6, 7, 12, 14, 15, 31};
    private static final int[] WEB = {0, 2, 3, 4, 6, 7, 12, 14, 15, 22, 23, 30, 31};

    private static final int IDENTITY = map(0, 1, 2, 3, 4);
    private static final int ROUND = map(1, 2, 3, 4, 0);
    private static final int BACKWARDS = map(4, 3, 2, 1, 0);

    private static String sentence = "";
    private static int sentences = 0;
    private static int wrong = 0;

    public static void main(String[] args) {
        the512thCallIsPromised();
        laterCallsStillEnd();
        terms();
        makingSpaces();
        questions();
        System.out.println(wrong == 0 ? sentences + " sentences hold" : wrong + " answers are not as due");
        if (wrong != 0) {
            System.exit(1);
        }
    }

    private static void terms() {
        pointsAre0To4();
        setHasTheDigitOfEachPoint();
        emptyAndFullSetAreOpenInEachSpace();
        withTwoOpenSetsTheirUnionAndSharedPointsAreOpen();
        spacesAre0To2();
        innerPartIsTheGreatestOpenSetWithin();
        closureIsTheLeastClosedSetThatHoldsIt();
        mapGivesEachPointADigit();
        makingAnswersTheOpenSetsThen();
        questionsChangeNothing();
    }

    private static void makingSpaces() {
        newObject();
        plainLeavesOnly0And31();
        looseOpensAllSets();
        openOfAnOpenSetChangesNothing();
        openIsTheLeastSpace();
        openReachesAllSets();
        tieOfAPointToItself();
        tieIsOneWay();
        tieRoundAllPoints();
        turnOfPlainAndLoose();
        turnTwice();
        copyOfItself();
        copyIsNotShared();
        joinWithItself();
        joinWithPlainAndLoose();
        joinIsTheLeastSpace();
        meetWithItself();
        meetWithPlainAndLoose();
        meetWithNothingShared();
        pullFromItself();
        pullByTheLeastAndGreatestMap();
        pushFromItself();
        pushByTheLeastAndGreatestMap();
    }

    private static void questions() {
        opensFrom2To32();
        isOpenOfEachSet();
        openAtTheEnds();
        openAtWithNone();
        innerOfEmptyAndFull();
        closureOfEmptyAndFull();
        aroundInPlainAndLoose();
        denseInPlainAndLoose();
        pieceInPlainAndLoose();
        kindFirstPart();
        kindSecondPart();
        kindThirdPart();
        kindFourthPart();
        continuousByTheLeastAndGreatestMap();
        continuousFromASpaceToItself();
        mapsFewestAndMost();
        sameFewestAndMost();
        sameNeedsBothWays();
        chainsOutside1To5();
        chainsOfOneAndOfAll();
        chainsNeedDifferentClosures();
        neededNotAtAll();
        neededMostOften();
        neededIsTheLeast();
    }

    // What is due, and how spaces are made.

    private static void sentence(String words) {
        sentence = words;
        sentences++;
    }

    private static void due(String call, int got, int want) {
        if (got != want && wrong++ < 100) {
            System.out.println("\"" + sentence + "\": " + call + " answered " + got + ", due is " + want);
        }
    }

    private static void dueOpen(String after, PointSpaces x, int s, int... sets) {
        for (int set = 0; set < 32; set++) {
            int want = Arrays.binarySearch(sets, set) >= 0 ? 1 : 0;
            due("isOpen(" + s + ", " + set + ") after " + after, x.isOpen(s, set), want);
        }
        due("opens(" + s + ") after " + after, x.opens(s), sets.length);
    }

    private static int[] numbersBelow(int bound) {
        int[] numbers = new int[bound];
        for (int i = 0; i < bound; i++) {
            numbers[i] = i;
        }
        return numbers;
    }

    private static int map(int f0, int f1, int f2, int f3, int f4) {
        return f0 + 5 * f1 + 25 * f2 + 125 * f3 + 625 * f4;
    }

    private static PointSpaces with(int... sets) {
        PointSpaces x = new PointSpaces();
        add(x, 0, sets);
        return x;
    }

    private static void add(PointSpaces x, int s, int... sets) {
        for (int set : sets) {
            x.open(s, set);
        }
    }

    /** Space 0 is plain, space 1 loose, and space 2 has the open sets 0, 1, 3, 7 and 31. */
    private static PointSpaces three() {
        PointSpaces x = new PointSpaces();
        x.loose(1);
        add(x, 2, 1, 3, 7);
        return x;
    }

    private static PointSpaces arms() {
        return with(3, 12, 6);
    }

    private static PointSpaces chain() {
        return with(1, 3, 7, 15);
    }

    private static PointSpaces loose() {
        PointSpaces x = new PointSpaces();
        x.loose(0);
        return x;
    }

    // What it is.

    private static void the512thCallIsPromised() {
        sentence("An object is used for at most 512 calls after it has been made");
        due("plain", after511().plain(2), 2);
        due("loose", after511().loose(2), 32);
        due("open", after511().open(2, 15), 6);
        due("tie", after511().tie(2, 0, 4), 2);
        due("turn", after511().turn(2), 5);
        due("copy", after511().copy(0, 2), 5);
        due("join", after511().join(0, 2), 5);
        due("meet", after511().meet(1, 2), 5);
        due("pull", after511().pull(0, 2, IDENTITY), 5);
        due("push", after511().push(0, 2, IDENTITY), 5);
        due("opens", after511().opens(2), 5);
        due("isOpen", after511().isOpen(2, 7), 1);
        due("openAt", after511().openAt(2, 3), 7);
        due("inner", after511().inner(2, 15), 7);
        due("closure", after511().closure(2, 4), 28);
        due("around", after511().around(2, 1), 3);
        due("dense", after511().dense(2), 16);
        due("piece", after511().piece(2, 0), 31);
        due("kind", after511().kind(2), 4);
        due("continuous", after511().continuous(2, 2, IDENTITY), 1);
        due("maps", after511().maps(0, 2), 35);
        due("same", after511().same(2, 2), 2);
        due("chains", after511().chains(2, 4), 2);
        due("needed", after511().needed(2), 3);
        due("a refused call", after511().open(2, 32), -2);
    }

    private static PointSpaces after511() {
        PointSpaces x = three();
        for (int call = 5; call <= 511; call++) {
            if (call % 2 == 0) {
                x.open(0, 32);
            } else {
                x.turn(1);
            }
        }
        return x;
    }

    private static void laterCallsStillEnd() {
        sentence("what later calls answer is free");
        PointSpaces x = after511();
        for (int call = 0; call < 5000; call++) {
            x.open(call % 4, call % 33);
            x.turn(call % 4);
            x.tie(call % 4, call % 6, call % 5);
        }
        due("another object's opens", new PointSpaces().opens(0), 2);
    }

    // Terms.

    private static void pointsAre0To4() {
        sentence("There are five POINTS, 0 to 4");
        PointSpaces x = three();
        for (int point = 0; point < 5; point++) {
            due("around(0, " + point + ")", x.around(0, point), 31);
            due("piece(1, " + point + ")", x.piece(1, point), 1 << point);
        }
        due("tie(1, 0, 4)", x.tie(1, 0, 4), 24);
        due("tie(1, 4, 0)", x.tie(1, 4, 0), 16);
        due("around(1, -1)", x.around(1, -1), -2);
        due("around(1, 5)", x.around(1, 5), -2);
    }

    private static void setHasTheDigitOfEachPoint() {
        sentence("the number from 0 to 31 that has the binary digit x for point x");
        for (int point = 0; point < 5; point++) {
            PointSpaces x = with(1 << point);
            for (int other = 0; other < 5; other++) {
                due("around(0, " + other + ") after open(0, " + (1 << point) + ")",
                        x.around(0, other), other == point ? 1 << point : 31);
            }
        }
    }

    private static void emptyAndFullSetAreOpenInEachSpace() {
        sentence("the empty set (0) and the set of all points (31) are open");
        for (PointSpaces x : edgeObjects()) {
            for (int s = 0; s < 3; s++) {
                due("isOpen(" + s + ", 0)", x.isOpen(s, 0), 1);
                due("isOpen(" + s + ", 31)", x.isOpen(s, 31), 1);
            }
        }
    }

    private static void withTwoOpenSetsTheirUnionAndSharedPointsAreOpen() {
        sentence("the points that are in at least one of them, and the points that are in both, are open sets, too");
        for (PointSpaces x : edgeObjects()) {
            for (int s = 0; s < 3; s++) {
                boolean[] open = new boolean[32];
                for (int set = 0; set < 32; set++) {
                    open[set] = x.isOpen(s, set) == 1;
                }
                for (int pair = 0; pair < 1024; pair++) {
                    int v = pair / 32;
                    int w = pair % 32;
                    boolean kept = !open[v] || !open[w] || open[v | w] && open[v & w];
                    due("open " + v + " and " + w + " in space " + s, kept ? 1 : 0, 1);
                }
            }
        }
    }

    /** An object after each of the making calls, in states in which it has much to do. */
    private static PointSpaces[] edgeObjects() {
        PointSpaces[] all = new PointSpaces[12];
        for (int i = 0; i < all.length; i++) {
            all[i] = three();
            add(all[i], 0, 3, 12);
        }
        all[1].open(0, 22);
        all[2].plain(2);
        all[3].loose(2);
        all[4].tie(1, 4, 0);
        all[5].turn(0);
        all[6].copy(0, 2);
        all[7].join(0, 2);
        all[8].meet(0, 2);
        all[9].pull(0, 0, map(1, 0, 2, 2, 0));
        all[10].push(0, 0, map(1, 0, 2, 2, 0));
        all[11].push(2, 2, 3124);
        return all;
    }

    private static void spacesAre0To2() {
        sentence("There are three spaces, 0 to 2");
        for (int s = 0; s < 3; s++) {
            PointSpaces x = new PointSpaces();
            due("open(" + s + ", 5)", x.open(s, 5), 3);
            for (int other = 0; other < 3; other++) {
                due("opens(" + other + ") after open(" + s + ", 5)", x.opens(other), other == s ? 3 : 2);
            }
        }
        due("opens(-1)", new PointSpaces().opens(-1), -1);
        due("opens(3)", new PointSpaces().opens(3), -1);
    }

    private static void innerPartIsTheGreatestOpenSetWithin() {
        sentence("THE INNER PART of a set is the greatest open set within it");
        PointSpaces x = arms();
        for (int set : ARMS) {
            due("inner of the open set " + set, x.inner(0, set), set);
        }
        due("inner of a set with two open sets side by side", x.inner(0, 22), 6);
        due("inner of a set with none but 0 within", x.inner(0, 25), 0);
    }

    private static void closureIsTheLeastClosedSetThatHoldsIt() {
        sentence("its CLOSURE the least closed set that holds it");
        PointSpaces x = arms();
        for (int open : ARMS) {
            due("closure of the closed set " + (31 - open), x.closure(0, 31 - open), 31 - open);
        }
        due("closure of a set that lies within two closed ones", x.closure(0, 8), 24);
        due("closure of a set that only 31 holds", x.closure(0, 6), 31);
    }

    private static void mapGivesEachPointADigit() {
        sentence("f(0) + 5 * f(1) + 25 * f(2) + 125 * f(3) + 625 * f(4), from 0 to 3124");
        int[] onlyOnePointTo4 = {4, 20, 100, 500, 2500};
        for (int point = 0; point < 5; point++) {
            PointSpaces x = with(16);
            due("pull by " + onlyOnePointTo4[point], x.pull(1, 0, onlyOnePointTo4[point]), 3);
            due("what comes to 16", x.openAt(1, 1), 1 << point);
        }
        PointSpaces x = with(16);
        due("continuous by 0", x.continuous(0, 0, 0), 1);
        due("continuous by 3124", x.continuous(0, 0, 3124), 1);
        due("continuous by -1", x.continuous(0, 0, -1), -2);
        due("continuous by 3125", x.continuous(0, 0, 3125), -2);
    }

    private static void makingAnswersTheOpenSetsThen() {
        sentence("each answers how many open sets space s has then");
        for (int s = 0; s < 3; s++) {
            int t = (s + 1) % 3;
            PointSpaces x = three();
            due("open", x.open(s, 18), x.opens(s));
            due("tie", x.tie(s, 1, 2), x.opens(s));
            due("turn", x.turn(s), x.opens(s));
            due("join", x.join(s, t), x.opens(s));
            due("meet", x.meet(s, (s + 2) % 3), x.opens(s));
            due("pull", x.pull(s, t, ROUND), x.opens(s));
            due("push", x.push(s, t, BACKWARDS), x.opens(s));
            due("copy", x.copy(s, t), x.opens(s));
            due("loose", x.loose(s), x.opens(s));
            due("plain", x.plain(s), x.opens(s));
        }
    }

    private static void questionsChangeNothing() {
        sentence("questions; they change nothing");
        PointSpaces x = three();
        for (int s = 0; s < 3; s++) {
            for (int set : new int[] {0, 9, 31}) {
                x.isOpen(s, set);
                x.openAt(s, set);
                x.inner(s, set);
                x.closure(s, set);
            }
            for (int point : new int[] {0, 4}) {
                x.around(s, point);
                x.piece(s, point);
                x.chains(s, point);
            }
            x.opens(s);
            x.dense(s);
            x.kind(s);
            x.needed(s);
            for (int t = 0; t < 3; t++) {
                x.continuous(s, t, 3124);
                x.maps(s, t);
                x.same(s, t);
            }
        }
        dueOpen("questions", x, 0, PLAIN);
        dueOpen("questions", x, 1, LOOSE);
        dueOpen("questions", x, 2, STEPS);
    }

    // Promises 1 to 11.

    private static void newObject() {
        sentence("at first only 0 and 31 are open in each");
        PointSpaces x = new PointSpaces();
        for (int s = 0; s < 3; s++) {
            dueOpen("new", x, s, PLAIN);
        }
        x.loose(0);
        dueOpen("new, beside a changed one", new PointSpaces(), 0, PLAIN);
    }

    private static void plainLeavesOnly0And31() {
        sentence("Only 0 and 31 are open");
        for (int s = 0; s < 3; s++) {
            PointSpaces x = three();
            due("plain(" + s + ")", x.plain(s), 2);
            dueOpen("plain", x, s, PLAIN);
            due("plain(" + s + ") of plain", x.plain(s), 2);
            dueOpen("plain", x, s, PLAIN);
        }
    }

    private static void looseOpensAllSets() {
        sentence("All sets are open");
        for (int s = 0; s < 3; s++) {
            PointSpaces x = three();
            due("loose(" + s + ")", x.loose(s), 32);
            dueOpen("loose", x, s, LOOSE);
            due("loose(" + s + ") of loose", x.loose(s), 32);
            dueOpen("loose", x, s, LOOSE);
        }
    }

    private static void openOfAnOpenSetChangesNothing() {
        sentence("the least family that ... has all open sets of before and the set: it is open before");
        for (int set : ARMS) {
            PointSpaces x = arms();
            due("open(0, " + set + ")", x.open(0, set), 10);
            dueOpen("open(0, " + set + ")", x, 0, ARMS);
        }
        for (int set = 0; set < 32; set++) {
            due("open(0, " + set + ") in loose", loose().open(0, set), 32);
        }
        due("open(0, 0) in plain", new PointSpaces().open(0, 0), 2);
        due("open(0, 31) in plain", new PointSpaces().open(0, 31), 2);
    }

    private static void openIsTheLeastSpace() {
        sentence("The open sets become the least family that is a space");
        for (int set = 1; set < 31; set++) {
            PointSpaces x = new PointSpaces();
            due("open(0, " + set + ") in plain", x.open(0, set), 3);
            dueOpen("open(0, " + set + ")", x, 0, 0, set, 31);
            due("open of the points not in " + set, x.open(0, 31 - set), 4);
        }
        PointSpaces x = with(3, 12);
        due("open(0, 22), which is met and met again", x.open(0, 22), 13);
        dueOpen("open(0, 22)", x, 0, WEB);
    }

    private static void openReachesAllSets() {
        sentence("The open sets become ...: up to all sets");
        PointSpaces x = new PointSpaces();
        int[] counts = {3, 5, 9, 17, 32};
        for (int point = 4; point >= 0; point--) {
            due("open(0, " + (1 << point) + ")", x.open(0, 1 << point), counts[4 - point]);
        }
        dueOpen("open of each point", x, 0, LOOSE);
    }

    private static void tieOfAPointToItself() {
        sentence("that have point b if they have point a: a is b");
        for (int point = 0; point < 5; point++) {
            PointSpaces x = three();
            due("tie(0, a, a) in plain", x.tie(0, point, point), 2);
            due("tie(1, a, a) in loose", x.tie(1, point, point), 32);
            due("tie(2, a, a)", x.tie(2, point, point), 5);
            dueOpen("tie(2, a, a)", x, 2, STEPS);
        }
    }

    private static void tieIsOneWay() {
        sentence("Only those open sets stay open that have point b if they have point a");
        for (int a = 0; a < 5; a++) {
            for (int b = 0; b < 5; b++) {
                if (a == b) {
                    continue;
                }
                PointSpaces x = loose();
                due("tie(0, " + a + ", " + b + ") in loose", x.tie(0, a, b), 24);
                for (int set = 0; set < 32; set++) {
                    boolean goes = (set >> a & 1) == 1 && (set >> b & 1) == 0;
                    due("isOpen(0, " + set + ") then", x.isOpen(0, set), goes ? 0 : 1);
                }
                due("tie again", x.tie(0, a, b), 24);
                due("tie(1, a, b) in plain", x.tie(1, a, b), 2);
            }
        }
    }

    private static void tieRoundAllPoints() {
        sentence("Only those open sets stay open ...: down to 0 and 31");
        PointSpaces x = loose();
        int[] counts = {24, 16, 10, 6, 2};
        for (int point = 0; point < 5; point++) {
            due("tie of " + point + " to the next", x.tie(0, point, (point + 1) % 5), counts[point]);
        }
        dueOpen("ties round all points", x, 0, PLAIN);
    }

    private static void turnOfPlainAndLoose() {
        sentence("The closed sets become the open ones: of plain, of loose, of one set");
        PointSpaces x = three();
        due("turn(0) of plain", x.turn(0), 2);
        dueOpen("turn(0)", x, 0, PLAIN);
        due("turn(1) of loose", x.turn(1), 32);
        dueOpen("turn(1)", x, 1, LOOSE);
        for (int set = 1; set < 31; set++) {
            PointSpaces y = with(set);
            due("turn(0) of " + set, y.turn(0), 3);
            due("the closed set", y.openAt(0, 1), 31 - set);
        }
    }

    private static void turnTwice() {
        sentence("The closed sets become the open ones: and back");
        PointSpaces x = three();
        due("turn(2)", x.turn(2), 5);
        dueOpen("turn(2)", x, 2, 0, 24, 28, 30, 31);
        due("turn(2) again", x.turn(2), 5);
        dueOpen("turn(2) again", x, 2, STEPS);
    }

    private static void copyOfItself() {
        sentence("Space s becomes what space t is: s is t");
        PointSpaces x = three();
        due("copy(0, 0)", x.copy(0, 0), 2);
        due("copy(1, 1)", x.copy(1, 1), 32);
        due("copy(2, 2)", x.copy(2, 2), 5);
        dueOpen("copy(2, 2)", x, 2, STEPS);
    }

    private static void copyIsNotShared() {
        sentence("Space s becomes what space t is: then each goes its own way");
        PointSpaces x = three();
        due("copy(0, 2)", x.copy(0, 2), 5);
        x.loose(2);
        dueOpen("copy(0, 2), loose(2)", x, 0, STEPS);
        due("copy(2, 0)", x.copy(2, 0), 5);
        x.plain(2);
        dueOpen("copy(2, 0), plain(2)", x, 0, STEPS);
        dueOpen("all that", x, 1, LOOSE);
    }

    private static void joinWithItself() {
        sentence("has all open sets of s and all of t: s is t");
        PointSpaces x = three();
        due("join(0, 0)", x.join(0, 0), 2);
        due("join(1, 1)", x.join(1, 1), 32);
        due("join(2, 2)", x.join(2, 2), 5);
        dueOpen("join(2, 2)", x, 2, STEPS);
    }

    private static void joinWithPlainAndLoose() {
        sentence("has all open sets of s and all of t: one of them plain or loose");
        PointSpaces x = three();
        due("join(2, 0) with plain", x.join(2, 0), 5);
        dueOpen("join(2, 0)", x, 2, STEPS);
        due("join(0, 2) of plain", x.join(0, 2), 5);
        dueOpen("join(0, 2)", x, 0, STEPS);
        due("join(1, 2) of loose", x.join(1, 2), 32);
        due("join(2, 1) with loose", x.join(2, 1), 32);
        dueOpen("join(2, 1)", x, 2, LOOSE);
        dueOpen("join(2, 1)", x, 0, STEPS);
    }

    private static void joinIsTheLeastSpace() {
        sentence("The open sets of s become the least family that is a space");
        PointSpaces x = with(3, 12);
        x.open(1, 22);
        due("join(1, 0)", x.join(1, 0), 13);
        dueOpen("join(1, 0)", x, 1, WEB);
        dueOpen("join(1, 0)", x, 0, 0, 3, 12, 15, 31);
        dueOpen("join(1, 0)", x, 2, PLAIN);
    }

    private static void meetWithItself() {
        sentence("Only those open sets of s stay open that are open in t: s is t");
        PointSpaces x = three();
        due("meet(0, 0)", x.meet(0, 0), 2);
        due("meet(1, 1)", x.meet(1, 1), 32);
        due("meet(2, 2)", x.meet(2, 2), 5);
        dueOpen("meet(2, 2)", x, 2, STEPS);
    }

    private static void meetWithPlainAndLoose() {
        sentence("Only those open sets of s stay open that are open in t: one of them plain or loose");
        PointSpaces x = three();
        due("meet(2, 1) with loose", x.meet(2, 1), 5);
        dueOpen("meet(2, 1)", x, 2, STEPS);
        due("meet(1, 2) of loose", x.meet(1, 2), 5);
        dueOpen("meet(1, 2)", x, 1, STEPS);
        due("meet(0, 2) of plain", x.meet(0, 2), 2);
        due("meet(2, 0) with plain", x.meet(2, 0), 2);
        dueOpen("meet(2, 0)", x, 2, PLAIN);
        dueOpen("meet(2, 0)", x, 1, STEPS);
    }

    private static void meetWithNothingShared() {
        sentence("Only those open sets of s stay open that are open in t: none but 0 and 31");
        PointSpaces x = with(1, 3);
        add(x, 1, 2, 6);
        due("meet(0, 1)", x.meet(0, 1), 2);
        dueOpen("meet(0, 1)", x, 0, PLAIN);
        dueOpen("meet(0, 1)", x, 1, 0, 2, 6, 31);
    }

    private static void pullFromItself() {
        sentence("t as it was before the call, also if it is s (pull)");
        PointSpaces x = three();
        due("pull(2, 2, round)", x.pull(2, 2, ROUND), 5);
        dueOpen("pull(2, 2, round)", x, 2, 0, 16, 17, 19, 31);
        PointSpaces y = arms();
        due("pull(0, 0, backwards)", y.pull(0, 0, BACKWARDS), 10);
        dueOpen("pull(0, 0, backwards)", y, 0, 0, 4, 6, 8, 12, 14, 24, 28, 30, 31);
        due("pull(1, 1, round) of plain", y.pull(1, 1, ROUND), 2);
        y.loose(1);
        due("pull(1, 1, round) of loose", y.pull(1, 1, ROUND), 32);
        due("pull(1, 1, f) of loose by a map to two points", y.pull(1, 1, map(0, 4, 0, 4, 0)), 4);
        dueOpen("pull(1, 1, f)", y, 1, 0, 10, 21, 31);
    }

    private static void pullByTheLeastAndGreatestMap() {
        sentence("The open sets of s become the sets that come, by a map, to the open sets of t: all points to one");
        for (int t = 0; t < 3; t++) {
            for (int point = 0; point < 5; point++) {
                PointSpaces x = three();
                due("pull(1, " + t + ", " + 781 * point + ")", x.pull(1, t, 781 * point), 2);
                dueOpen("pull by a map to one point", x, 1, PLAIN);
            }
            PointSpaces x = three();
            due("pull(0, " + t + ", identity)", x.pull(0, t, IDENTITY), x.opens(t));
        }
    }

    private static void pushFromItself() {
        sentence("t as it was before the call (push)");
        PointSpaces x = three();
        due("push(2, 2, round)", x.push(2, 2, ROUND), 5);
        dueOpen("push(2, 2, round)", x, 2, 0, 2, 6, 14, 31);
        PointSpaces y = arms();
        due("push(0, 0, backwards)", y.push(0, 0, BACKWARDS), 10);
        dueOpen("push(0, 0, backwards)", y, 0, 0, 4, 6, 8, 12, 14, 24, 28, 30, 31);
        due("push(1, 1, round) of plain", y.push(1, 1, ROUND), 2);
        due("push(1, 1, f) of plain by a map to two points", y.push(1, 1, map(0, 4, 0, 4, 0)), 16);
        y.loose(1);
        due("push(1, 1, round) of loose", y.push(1, 1, ROUND), 32);
    }

    private static void pushByTheLeastAndGreatestMap() {
        sentence("the sets V such that what comes to V by a map is open in t: all points to one");
        for (int t = 0; t < 3; t++) {
            for (int point = 0; point < 5; point++) {
                PointSpaces x = three();
                due("push(0, " + t + ", " + 781 * point + ")", x.push(0, t, 781 * point), 32);
                dueOpen("push by a map to one point", x, 0, LOOSE);
            }
            PointSpaces x = three();
            due("push(0, " + t + ", identity)", x.push(0, t, IDENTITY), x.opens(t));
        }
    }

    // Promises 12 to 25.

    private static void opensFrom2To32() {
        sentence("How many sets are open: the fewest and the most");
        PointSpaces x = three();
        due("opens(0) in plain", x.opens(0), 2);
        due("opens(1) in loose", x.opens(1), 32);
        due("opens(2)", x.opens(2), 5);
    }

    private static void isOpenOfEachSet() {
        sentence("1 if a set is open, else 0");
        PointSpaces x = three();
        for (int set = 0; set < 32; set++) {
            due("isOpen(0, " + set + ") in plain", x.isOpen(0, set), set == 0 || set == 31 ? 1 : 0);
            due("isOpen(1, " + set + ") in loose", x.isOpen(1, set), 1);
            due("isOpen(2, " + set + ")", x.isOpen(2, set), Arrays.binarySearch(STEPS, set) >= 0 ? 1 : 0);
        }
    }

    private static void openAtTheEnds() {
        sentence("The open set with exactly k open sets that are lesser numbers");
        PointSpaces x = three();
        for (int s = 0; s < 3; s++) {
            due("openAt(" + s + ", 0)", x.openAt(s, 0), 0);
        }
        due("openAt(0, 1), the last of plain", x.openAt(0, 1), 31);
        due("openAt(1, 31), the last of loose", x.openAt(1, 31), 31);
        due("openAt(1, 1)", x.openAt(1, 1), 1);
        due("openAt(1, 30)", x.openAt(1, 30), 30);
        due("openAt(2, 4), the last of steps", x.openAt(2, 4), 31);
        due("openAt(2, 3)", x.openAt(2, 3), 7);
    }

    private static void openAtWithNone() {
        sentence("there is none: -3");
        PointSpaces x = three();
        due("openAt(0, 2)", x.openAt(0, 2), -3);
        due("openAt(1, 32)", x.openAt(1, 32), -3);
        due("openAt(1, 33)", x.openAt(1, 33), -3);
        due("openAt(2, 5)", x.openAt(2, 5), -3);
        for (int s = 0; s < 3; s++) {
            for (int k : new int[] {-1, -2, -32, LOW, LOW + 1, HIGH, HIGH - 1, 64, 256, 65536}) {
                due("openAt(" + s + ", " + k + ")", x.openAt(s, k), -3);
            }
        }
    }

    private static void innerOfEmptyAndFull() {
        sentence("The inner part of a set: of 0, of 31, in plain and in loose");
        PointSpaces x = three();
        for (int set = 0; set < 32; set++) {
            due("inner(0, " + set + ") in plain", x.inner(0, set), set == 31 ? 31 : 0);
            due("inner(1, " + set + ") in loose", x.inner(1, set), set);
        }
        due("inner(2, 0)", x.inner(2, 0), 0);
        due("inner(2, 31)", x.inner(2, 31), 31);
        due("inner(2, 30), all but the one open point", x.inner(2, 30), 0);
    }

    private static void closureOfEmptyAndFull() {
        sentence("The closure of a set: of 0, of 31, in plain and in loose");
        PointSpaces x = three();
        for (int set = 0; set < 32; set++) {
            due("closure(0, " + set + ") in plain", x.closure(0, set), set == 0 ? 0 : 31);
            due("closure(1, " + set + ") in loose", x.closure(1, set), set);
        }
        due("closure(2, 0)", x.closure(2, 0), 0);
        due("closure(2, 31)", x.closure(2, 31), 31);
        due("closure(2, 1), the one open point", x.closure(2, 1), 31);
        due("closure(2, 16)", x.closure(2, 16), 24);
    }

    private static void aroundInPlainAndLoose() {
        sentence("The least open set that has a point: 31 at the most, the point alone at the least");
        PointSpaces x = three();
        int[] inSteps = {1, 3, 7, 31, 31};
        for (int point = 0; point < 5; point++) {
            due("around(0, " + point + ") in plain", x.around(0, point), 31);
            due("around(1, " + point + ") in loose", x.around(1, point), 1 << point);
            due("around(2, " + point + ")", x.around(2, point), inSteps[point]);
        }
    }

    private static void denseInPlainAndLoose() {
        sentence("How many sets have the closure 31: all but 0 at the most, 31 alone at the least");
        PointSpaces x = three();
        due("dense(0) in plain", x.dense(0), 31);
        due("dense(1) in loose", x.dense(1), 1);
        due("dense(2)", x.dense(2), 16);
    }

    private static void pieceInPlainAndLoose() {
        sentence("The least set that has a point and is both open and closed: 31 at the most, the point at the least");
        PointSpaces x = three();
        PointSpaces y = with(1, 30);
        for (int point = 0; point < 5; point++) {
            due("piece(0, " + point + ") in plain", x.piece(0, point), 31);
            due("piece(1, " + point + ") in loose", x.piece(1, point), 1 << point);
            due("piece(2, " + point + "), open sets but none closed", x.piece(2, point), 31);
            due("piece(0, " + point + ") with 1 and 30", y.piece(0, point), point == 0 ? 1 : 30);
        }
    }

    private static void kindFirstPart() {
        sentence("1, if no two points have the same closure: just two have");
        due("kind of a chain of all points", chain().kind(0), 5);
        due("kind of a chain with two alike at its end", with(1, 3, 7).kind(0), 4);
        due("kind of a chain with two alike at its start", with(3, 7, 15).kind(0), 4);
        for (int a = 0; a < 5; a++) {
            for (int b = a + 1; b < 5; b++) {
                PointSpaces x = loose();
                x.tie(0, a, b);
                due("kind with " + a + " tied to " + b, x.kind(0), 1);
                x.tie(0, b, a);
                due("kind with " + a + " and " + b + " alike", x.kind(0), 8);
            }
        }
    }

    private static void kindSecondPart() {
        sentence("2, if each point by itself is a closed set: just one is not");
        due("kind of loose", loose().kind(0), 11);
        for (int b = 0; b < 5; b++) {
            PointSpaces x = loose();
            x.tie(0, (b + 1) % 5, b);
            for (int point = 0; point < 5; point++) {
                boolean closed = x.closure(0, 1 << point) == 1 << point;
                due("closed " + point, closed ? 1 : 0, point == b ? 0 : 1);
            }
            due("kind with all points but " + b + " closed", x.kind(0), 1);
        }
    }

    private static void kindThirdPart() {
        sentence("4, if only 0 and 31 are both open and closed: just two more are");
        due("kind of plain", new PointSpaces().kind(0), 12);
        for (int set = 1; set < 31; set++) {
            PointSpaces x = with(set);
            due("kind with " + set + ", which is not closed", x.kind(0), 4);
            x.open(0, 31 - set);
            due("kind with " + set + ", which is closed", x.kind(0), 8);
        }
        due("kind with all points apart but two", with(1, 2, 4, 24, 8).kind(0), 1);
    }

    private static void kindFourthPart() {
        sentence("8, if every open set is closed: just one is not");
        due("kind of two blocks", with(3, 28).kind(0), 8);
        due("kind of two blocks and a set in one", with(3, 28, 1).kind(0), 0);
        due("kind of two blocks and a set in each", with(3, 28, 1, 4, 12).kind(0), 1);
    }

    private static void continuousByTheLeastAndGreatestMap() {
        sentence("1 if a map is continuous from s to t, else 0: all points to one");
        PointSpaces x = three();
        for (int s = 0; s < 3; s++) {
            for (int t = 0; t < 3; t++) {
                for (int point = 0; point < 5; point++) {
                    due("continuous(" + s + ", " + t + ", " + 781 * point + ")",
                            x.continuous(s, t, 781 * point), 1);
                }
            }
        }
        due("continuous(0, 1, 1), the map beside 0", x.continuous(0, 1, 1), 0);
        due("continuous(0, 1, 3123), the map beside 3124", x.continuous(0, 1, 3123), 0);
        due("continuous(1, 0, 1)", x.continuous(1, 0, 1), 1);
        due("continuous(1, 0, 3123)", x.continuous(1, 0, 3123), 1);
    }

    private static void continuousFromASpaceToItself() {
        sentence("1 if a map is continuous from s to t, else 0: s is t");
        PointSpaces x = three();
        for (int s = 0; s < 3; s++) {
            due("continuous(" + s + ", " + s + ", identity)", x.continuous(s, s, IDENTITY), 1);
        }
        due("continuous(2, 2, round)", x.continuous(2, 2, ROUND), 0);
        due("continuous(1, 2, identity) from the finer", x.continuous(1, 2, IDENTITY), 1);
        due("continuous(2, 1, identity) from the coarser", x.continuous(2, 1, IDENTITY), 0);
    }

    private static void mapsFewestAndMost() {
        sentence("How many maps are continuous from s to t");
        PointSpaces x = three();
        due("maps(0, 1) from plain to loose", x.maps(0, 1), 5);
        due("maps(0, 0) of plain", x.maps(0, 0), 3125);
        due("maps(1, 1) of loose", x.maps(1, 1), 3125);
        due("maps(1, 2) from loose", x.maps(1, 2), 3125);
        due("maps(2, 0) to plain", x.maps(2, 0), 3125);
        due("maps(2, 1) from a space in one piece to loose", x.maps(2, 1), 5);
        due("maps(0, 0) of a chain", chain().maps(0, 0), 126);
    }

    private static void sameFewestAndMost() {
        sentence("How many maps that take different points to different points are continuous: s is t");
        PointSpaces x = three();
        due("same(0, 0) of plain", x.same(0, 0), 120);
        due("same(1, 1) of loose", x.same(1, 1), 120);
        due("same(2, 2)", x.same(2, 2), 2);
        due("same(0, 0) of a chain", chain().same(0, 0), 1);
    }

    private static void sameNeedsBothWays() {
        sentence("for every set that is open in s the points to which it is taken are an open set of t");
        PointSpaces x = three();
        due("same(1, 0) from loose to plain", x.same(1, 0), 0);
        due("same(0, 1) from plain to loose", x.same(0, 1), 0);
        due("same(1, 2) from the finer", x.same(1, 2), 0);
        due("same(2, 1) from the coarser", x.same(2, 1), 0);
        x.pull(0, 2, ROUND);
        due("same(0, 2) of a space and what it was pulled from", x.same(0, 2), 2);
        x.turn(0);
        due("same(0, 2) of a space and its turned one", x.same(0, 2), 0);
    }

    private static void chainsOutside1To5() {
        sentence("0 for a k below 1 or above 5");
        PointSpaces x = three();
        PointSpaces y = chain();
        for (int k : new int[] {0, -1, -5, LOW, 6, 7, 32, 256, 257, 65537, HIGH}) {
            for (int s = 0; s < 3; s++) {
                due("chains(" + s + ", " + k + ")", x.chains(s, k), 0);
            }
            due("chains(0, " + k + ") of a chain", y.chains(0, k), 0);
        }
    }

    private static void chainsOfOneAndOfAll() {
        sentence("How many sets of k points there are: k is 1, k is 5");
        PointSpaces x = three();
        for (int s = 0; s < 3; s++) {
            due("chains(" + s + ", 1)", x.chains(s, 1), 5);
            due("chains(" + s + ", 5)", x.chains(s, 5), 0);
        }
        PointSpaces y = chain();
        int[] inChain = {5, 10, 10, 5, 1};
        for (int k = 1; k <= 5; k++) {
            due("chains(0, " + k + ") of a chain", y.chains(0, k), inChain[k - 1]);
        }
    }

    private static void chainsNeedDifferentClosures() {
        sentence("k different sets, of any two of which one holds the other");
        PointSpaces x = three();
        due("chains(0, 2) in plain, all closures the same", x.chains(0, 2), 0);
        due("chains(1, 2) in loose, none holds another", x.chains(1, 2), 0);
        due("chains(2, 2), two points alike", x.chains(2, 2), 9);
        due("chains(2, 4), two points alike", x.chains(2, 4), 2);
        PointSpaces y = arms();
        due("chains(0, 3) of two arms", y.chains(0, 3), 2);
        due("chains(0, 4) of two arms", y.chains(0, 4), 0);
    }

    private static void neededNotAtAll() {
        sentence("The least number of sets with which open would make s from plain: none");
        PointSpaces x = three();
        due("needed(0) of a new object", x.needed(0), 0);
        x.plain(1);
        due("needed(1) of loose made plain", x.needed(1), 0);
        x.pull(2, 2, 0);
        due("needed(2) after a pull to plain", x.needed(2), 0);
        for (int set = 1; set < 31; set++) {
            due("needed with " + set, with(set).needed(0), 1);
        }
    }

    private static void neededMostOften() {
        sentence("The least number of sets with which open would make s from plain: the most");
        PointSpaces x = with(1, 3, 7, 15, 16);
        due("needed of a chain of four and a point apart", x.needed(0), 5);
        x.turn(0);
        due("needed of that turned", x.needed(0), 5);
        due("needed of a chain of five", chain().needed(0), 4);
    }

    private static void neededIsTheLeast() {
        sentence("The least number of sets with which open would make s from plain: fewer than it was made of");
        due("needed of loose, made of five points", with(1, 2, 4, 8, 16).needed(0), 4);
        due("opens with four sets that make loose", with(7, 25, 10, 20).opens(0), 32);
        due("three sets that make loose", threeSetsMakeLoose(), 0);
        due("needed of what 3 and 6 make", with(2, 7, 3, 6).needed(0), 2);
        due("needed of what 3, 12 and 22 make", with(2, 4, 3, 12, 22).needed(0), 3);
    }

    private static int threeSetsMakeLoose() {
        int found = 0;
        for (int a = 1; a < 31; a++) {
            for (int b = a + 1; b < 31; b++) {
                for (int c = b + 1; c < 31; c++) {
                    found += with(a, b, c).opens(0) == 32 ? 1 : 0;
                }
            }
        }
        return found;
    }
}
