/**
 * Spaces on five points: families of open sets, made finer and coarser,
 * carried along maps, and what holds in them.
 *
 * A set of points is a number from 0 to 31. A family of sets is an int whose
 * binary digit V tells whether set V is in it: the 32 sets fill it exactly,
 * so the digit of set 31 is the sign.
 */
public final class PointSpaces {
    private static final int SPACES = 3;
    private static final int POINTS = 5;
    private static final int SETS = 32;
    private static final int MAPS = 3125;
    private static final int ALL_POINTS = 31;

    private static final int PLAIN_FAMILY = 1 | 1 << ALL_POINTS;
    private static final int LOOSE_FAMILY = -1;

    private static final int WRONG_SPACE = -1;
    private static final int WRONG_ARGUMENT = -2;
    private static final int NONE = -3;

    /** The open sets of each space. */
    private final int[] families = new int[SPACES];

    /** For each set, the pairs of points (x, y) with x in it and y not: digit 5 * x + y. */
    private final int[] splits = new int[SETS];

    public PointSpaces() {
        for (int s = 0; s < SPACES; s++) {
            families[s] = PLAIN_FAMILY;
        }
        for (int set = 0; set < SETS; set++) {
            splits[set] = splitPairs(set);
        }
    }

    // Making spaces.

    public int plain(int s) {
        if (!isSpace(s)) {
            return WRONG_SPACE;
        }
        return become(s, PLAIN_FAMILY);
    }

    public int loose(int s) {
        if (!isSpace(s)) {
            return WRONG_SPACE;
        }
        return become(s, LOOSE_FAMILY);
    }

    public int open(int s, int set) {
        if (!isSpace(s)) {
            return WRONG_SPACE;
        }
        if (!isSet(set)) {
            return WRONG_ARGUMENT;
        }
        int finer = leastSpace(families[s] | 1 << set);
        return become(s, finer);
    }

    public int tie(int s, int a, int b) {
        if (!isSpace(s)) {
            return WRONG_SPACE;
        }
        if (!isPoint(a) || !isPoint(b)) {
            return WRONG_ARGUMENT;
        }
        int tied = tiedFamily(families[s], a, b);
        return become(s, tied);
    }

    public int turn(int s) {
        if (!isSpace(s)) {
            return WRONG_SPACE;
        }
        int closed = closedSets(families[s]);
        return become(s, closed);
    }

    public int copy(int s, int t) {
        if (!isSpace(s) || !isSpace(t)) {
            return WRONG_SPACE;
        }
        return become(s, families[t]);
    }

    public int join(int s, int t) {
        if (!isSpace(s) || !isSpace(t)) {
            return WRONG_SPACE;
        }
        int joined = leastSpace(families[s] | families[t]);
        return become(s, joined);
    }

    public int meet(int s, int t) {
        if (!isSpace(s) || !isSpace(t)) {
            return WRONG_SPACE;
        }
        return become(s, families[s] & families[t]);
    }

    public int pull(int s, int t, int map) {
        if (!isSpace(s) || !isSpace(t)) {
            return WRONG_SPACE;
        }
        if (!isMap(map)) {
            return WRONG_ARGUMENT;
        }
        int pulled = pulledFamily(families[t], map);
        return become(s, pulled);
    }

    public int push(int s, int t, int map) {
        if (!isSpace(s) || !isSpace(t)) {
            return WRONG_SPACE;
        }
        if (!isMap(map)) {
            return WRONG_ARGUMENT;
        }
        int pushed = pushedFamily(families[t], map);
        return become(s, pushed);
    }

    // Questions.

    public int opens(int s) {
        if (!isSpace(s)) {
            return WRONG_SPACE;
        }
        return countOnes(families[s]);
    }

    public int isOpen(int s, int set) {
        if (!isSpace(s)) {
            return WRONG_SPACE;
        }
        if (!isSet(set)) {
            return WRONG_ARGUMENT;
        }
        return has(families[s], set) ? 1 : 0;
    }

    public int openAt(int s, int k) {
        if (!isSpace(s)) {
            return WRONG_SPACE;
        }
        int lesser = 0;
        for (int set = 0; set < SETS; set++) {
            if (has(families[s], set)) {
                if (lesser == k) {
                    return set;
                }
                lesser++;
            }
        }
        return NONE;
    }

    public int inner(int s, int set) {
        if (!isSpace(s)) {
            return WRONG_SPACE;
        }
        if (!isSet(set)) {
            return WRONG_ARGUMENT;
        }
        return innerPart(families[s], set);
    }

    public int closure(int s, int set) {
        if (!isSpace(s)) {
            return WRONG_SPACE;
        }
        if (!isSet(set)) {
            return WRONG_ARGUMENT;
        }
        return closureOf(families[s], set);
    }

    public int around(int s, int x) {
        if (!isSpace(s)) {
            return WRONG_SPACE;
        }
        if (!isPoint(x)) {
            return WRONG_ARGUMENT;
        }
        return leastWith(families[s], x);
    }

    public int dense(int s) {
        if (!isSpace(s)) {
            return WRONG_SPACE;
        }
        int count = 0;
        for (int set = 0; set < SETS; set++) {
            if (closureOf(families[s], set) == ALL_POINTS) {
                count++;
            }
        }
        return count;
    }

    public int piece(int s, int x) {
        if (!isSpace(s)) {
            return WRONG_SPACE;
        }
        if (!isPoint(x)) {
            return WRONG_ARGUMENT;
        }
        int openAndClosed = families[s] & closedSets(families[s]);
        return leastWith(openAndClosed, x);
    }

    public int kind(int s) {
        if (!isSpace(s)) {
            return WRONG_SPACE;
        }
        int family = families[s];
        int closed = closedSets(family);
        int sum = 0;
        if (closuresDiffer(family)) {
            sum += 1;
        }
        if (hasEachPoint(closed)) {
            sum += 2;
        }
        if ((family & closed) == PLAIN_FAMILY) {
            sum += 4;
        }
        if ((family & ~closed) == 0) {
            sum += 8;
        }
        return sum;
    }

    public int continuous(int s, int t, int map) {
        if (!isSpace(s) || !isSpace(t)) {
            return WRONG_SPACE;
        }
        if (!isMap(map)) {
            return WRONG_ARGUMENT;
        }
        return isContinuous(families[s], families[t], map) ? 1 : 0;
    }

    public int maps(int s, int t) {
        if (!isSpace(s) || !isSpace(t)) {
            return WRONG_SPACE;
        }
        int count = 0;
        for (int map = 0; map < MAPS; map++) {
            if (isContinuous(families[s], families[t], map)) {
                count++;
            }
        }
        return count;
    }

    public int same(int s, int t) {
        if (!isSpace(s) || !isSpace(t)) {
            return WRONG_SPACE;
        }
        int count = 0;
        for (int map = 0; map < MAPS; map++) {
            if (isSameness(families[s], families[t], map)) {
                count++;
            }
        }
        return count;
    }

    public int chains(int s, int k) {
        if (!isSpace(s)) {
            return WRONG_SPACE;
        }
        int count = 0;
        // From 1 on: the empty set would be a chain of k = 0 points, for which 0 is due.
        for (int set = 1; set < SETS; set++) {
            if (countOnes(set) == k && isChain(families[s], set)) {
                count++;
            }
        }
        return count;
    }

    public int needed(int s) {
        if (!isSpace(s)) {
            return WRONG_SPACE;
        }
        return fewestSets(families[s]);
    }

    // What the arguments may be.

    private static boolean isSpace(int s) {
        return s >= 0 && s < SPACES;
    }

    private static boolean isSet(int set) {
        return set >= 0 && set < SETS;
    }

    private static boolean isPoint(int x) {
        return x >= 0 && x < POINTS;
    }

    private static boolean isMap(int map) {
        return map >= 0 && map < MAPS;
    }

    // Digits of numbers: the points of a set, the sets of a family.

    private static boolean has(int number, int digit) {
        return (number >>> digit & 1) == 1;
    }

    private static int countOnes(int number) {
        int count = 0;
        for (int digit = 0; digit < SETS; digit++) {
            if (has(number, digit)) {
                count++;
            }
        }
        return count;
    }

    private static boolean isWithin(int small, int great) {
        return (small & ~great) == 0;
    }

    // Families.

    private int become(int s, int family) {
        families[s] = family;
        return countOnes(family);
    }

    /**
     * The least space that has every set of a family. On finitely many points
     * its least open set around x is what all sets of the family with x share,
     * and its open sets are those that hold this for each of their points.
     */
    private static int leastSpace(int family) {
        int space = 0;
        for (int set = 0; set < SETS; set++) {
            if (holdsLeastOfEachPoint(family, set)) {
                space |= 1 << set;
            }
        }
        return space;
    }

    private static boolean holdsLeastOfEachPoint(int family, int set) {
        for (int x = 0; x < POINTS; x++) {
            if (has(set, x)) {
                int least = leastWith(family, x);
                if (!isWithin(least, set)) {
                    return false;
                }
            }
        }
        return true;
    }

    /** The points that all sets of a family with point x share. */
    private static int leastWith(int family, int x) {
        int shared = ALL_POINTS;
        for (int set = 0; set < SETS; set++) {
            if (has(family, set) && has(set, x)) {
                shared &= set;
            }
        }
        return shared;
    }

    private static int tiedFamily(int family, int a, int b) {
        int tied = 0;
        for (int set = 0; set < SETS; set++) {
            if (has(family, set) && (!has(set, a) || has(set, b))) {
                tied |= 1 << set;
            }
        }
        return tied;
    }

    private static int closedSets(int family) {
        int closed = 0;
        for (int set = 0; set < SETS; set++) {
            if (has(family, ALL_POINTS - set)) {
                closed |= 1 << set;
            }
        }
        return closed;
    }

    private static int pulledFamily(int family, int map) {
        int pulled = 0;
        for (int set = 0; set < SETS; set++) {
            if (has(family, set)) {
                int coming = comingTo(map, set);
                pulled |= 1 << coming;
            }
        }
        return pulled;
    }

    private static int pushedFamily(int family, int map) {
        int pushed = 0;
        for (int set = 0; set < SETS; set++) {
            int coming = comingTo(map, set);
            if (has(family, coming)) {
                pushed |= 1 << set;
            }
        }
        return pushed;
    }

    // Sets within a space.

    private static int innerPart(int family, int set) {
        int part = 0;
        for (int candidate = 0; candidate < SETS; candidate++) {
            if (has(family, candidate) && isWithin(candidate, set)) {
                part |= candidate;
            }
        }
        return part;
    }

    private static int closureOf(int family, int set) {
        return ALL_POINTS - innerPart(family, ALL_POINTS - set);
    }

    private static boolean closuresDiffer(int family) {
        for (int x = 0; x < POINTS; x++) {
            for (int y = x + 1; y < POINTS; y++) {
                if (closureOf(family, 1 << x) == closureOf(family, 1 << y)) {
                    return false;
                }
            }
        }
        return true;
    }

    private static boolean hasEachPoint(int family) {
        for (int x = 0; x < POINTS; x++) {
            if (!has(family, 1 << x)) {
                return false;
            }
        }
        return true;
    }

    private static boolean isChain(int family, int set) {
        for (int x = 0; x < POINTS; x++) {
            for (int y = x + 1; y < POINTS; y++) {
                if (has(set, x) && has(set, y) && !isStep(family, x, y)) {
                    return false;
                }
            }
        }
        return true;
    }

    /** Whether the closures of two points differ and one holds the other. */
    private static boolean isStep(int family, int x, int y) {
        int first = closureOf(family, 1 << x);
        int second = closureOf(family, 1 << y);
        return first != second && (isWithin(first, second) || isWithin(second, first));
    }

    // Maps.

    private static int comingTo(int map, int set) {
        int coming = 0;
        int rest = map;
        for (int x = 0; x < POINTS; x++) {
            if (has(set, rest % POINTS)) {
                coming |= 1 << x;
            }
            rest /= POINTS;
        }
        return coming;
    }

    private static int takenFrom(int map, int set) {
        int taken = 0;
        int rest = map;
        for (int x = 0; x < POINTS; x++) {
            if (has(set, x)) {
                taken |= 1 << rest % POINTS;
            }
            rest /= POINTS;
        }
        return taken;
    }

    private static boolean isContinuous(int from, int to, int map) {
        int pulled = pulledFamily(to, map);
        return isWithin(pulled, from);
    }

    private static boolean isSameness(int from, int to, int map) {
        return takenFrom(map, ALL_POINTS) == ALL_POINTS
                && isContinuous(from, to, map)
                && takesOpenToOpen(from, to, map);
    }

    private static boolean takesOpenToOpen(int from, int to, int map) {
        for (int set = 0; set < SETS; set++) {
            if (has(from, set)) {
                int taken = takenFrom(map, set);
                if (!has(to, taken)) {
                    return false;
                }
            }
        }
        return true;
    }

    // How many sets make a space.

    private static int splitPairs(int set) {
        int pairs = 0;
        for (int x = 0; x < POINTS; x++) {
            for (int y = 0; y < POINTS; y++) {
                if (has(set, x) && !has(set, y)) {
                    pairs |= 1 << POINTS * x + y;
                }
            }
        }
        return pairs;
    }

    /**
     * Some open sets make the whole space just if they split every pair that
     * its open sets split: then the least open sets around points agree. Those
     * five always suffice, so only choices of four or fewer have to be tried;
     * the empty set splits nothing and stands for a set left out.
     */
    private int fewestSets(int family) {
        int wanted = allSplits(family);
        int fewest = POINTS;
        for (int first = 0; first < SETS; first++) {
            for (int second = first; second < SETS; second++) {
                if (has(family, first) && has(family, second)) {
                    int missing = wanted & ~(splits[first] | splits[second]);
                    int more = fewestOfTwo(family, missing);
                    int count = countChosen(first, second) + more;
                    fewest = count < fewest ? count : fewest;
                }
            }
        }
        return fewest;
    }

    private int allSplits(int family) {
        int pairs = 0;
        for (int set = 0; set < SETS; set++) {
            if (has(family, set)) {
                pairs |= splits[set];
            }
        }
        return pairs;
    }

    /** The fewest open sets, two at most, that split the missing pairs, or 5 if two do not. */
    private int fewestOfTwo(int family, int missing) {
        int fewest = POINTS;
        for (int first = 0; first < SETS; first++) {
            for (int second = first; second < SETS; second++) {
                if (has(family, first) && has(family, second)
                        && isWithin(missing, splits[first] | splits[second])) {
                    int count = countChosen(first, second);
                    fewest = count < fewest ? count : fewest;
                }
            }
        }
        return fewest;
    }

    private static int countChosen(int first, int second) {
        return (first == 0 ? 0 : 1) + (second == 0 ? 0 : 1);
    }
}
