/** Chooses which undertakings to do when some need others. */
public final class ClosureDesk {
    public static final int NONE = -1;
    public static final int FULL = -2;
    public static final int BAD = -100000;

    private static final int PLACES = 9;
    private static final int ALL_SETS = 1 << PLACES;
    private static final int LEAST_WORTH = -50;
    private static final int GREATEST_WORTH = 50;

    private final int[] worths = new int[PLACES];
    // Bit v of needs[u] says that u needs v. Only present undertakings need or are needed,
    // so no reader of this array has to mask it with the present ones.
    private final int[] needs = new int[PLACES];
    private int present;

    public ClosureDesk() {
        present = 0;
    }

    public int add(int worth) {
        if (!isWorth(worth)) {
            return NONE;
        }
        for (int u = 0; u < PLACES; u++) {
            if (!isIn(u, present)) {
                present |= 1 << u;
                worths[u] = worth;
                return u;
            }
        }
        return FULL;
    }

    public boolean remove(int u) {
        if (!isPresent(u)) {
            return false;
        }
        present &= ~(1 << u);
        needs[u] = 0;
        for (int other = 0; other < PLACES; other++) {
            needs[other] &= ~(1 << u);
        }
        return true;
    }

    public boolean rate(int u, int worth) {
        if (!isPresent(u) || !isWorth(worth)) {
            return false;
        }
        worths[u] = worth;
        return true;
    }

    public boolean need(int u, int v, boolean on) {
        if (!isPair(u, v)) {
            return false;
        }
        if (on) {
            needs[u] |= 1 << v;
        } else {
            needs[u] &= ~(1 << v);
        }
        return true;
    }

    public int undertakings() {
        return present;
    }

    public boolean closed(int set) {
        if ((set & ~present) != 0) {
            return false;
        }
        return (neededBy(set) & ~set) == 0;
    }

    public int closure(int set) {
        int grown = set & present;
        // A round that adds nothing changes nothing later, so one round for each place is enough.
        for (int round = 0; round < PLACES; round++) {
            grown |= neededBy(grown);
        }
        return grown;
    }

    public int best() {
        return greatestWorth(0, 0);
    }

    public int leastBest() {
        int greatest = best();
        int common = present;
        for (int set = 0; set < ALL_SETS; set++) {
            if (isClosedWithWorth(set, greatest)) {
                common &= set;
            }
        }
        return common;
    }

    public int greatestBest() {
        int greatest = best();
        int joined = 0;
        for (int set = 0; set < ALL_SETS; set++) {
            if (isClosedWithWorth(set, greatest)) {
                joined |= set;
            }
        }
        return joined;
    }

    public int bestWith(int u) {
        if (!isPresent(u)) {
            return BAD;
        }
        return greatestWorth(1 << u, 0);
    }

    public int bestWithout(int u) {
        // A number that none has bars nothing, which makes this the same as best().
        int barred = isPresent(u) ? 1 << u : 0;
        return greatestWorth(0, barred);
    }

    public int threshold(int u) {
        if (!isPresent(u)) {
            return BAD;
        }
        // u is in some best set when the sets with it reach those without it. Its own worth counts
        // once in each of the former and in none of the latter, so the least worth is a difference.
        int restWith = bestWith(u) - worths[u];
        int least = bestWithout(u) - restWith;
        if (least < LEAST_WORTH) {
            return LEAST_WORTH;
        }
        if (least > GREATEST_WORTH) {
            return GREATEST_WORTH + 1;
        }
        return least;
    }

    public int burden(int u, int v) {
        if (!isPair(u, v)) {
            return BAD;
        }
        int kept = needs[u];
        int before = best();
        needs[u] = kept & ~(1 << v);
        int after = best();
        needs[u] = kept;
        return after - before;
    }

    public int choices() {
        int greatest = best();
        int count = 0;
        for (int set = 0; set < ALL_SETS; set++) {
            if (isClosedWithWorth(set, greatest)) {
                count++;
            }
        }
        return count;
    }

    private static boolean isWorth(int worth) {
        return worth >= LEAST_WORTH && worth <= GREATEST_WORTH;
    }

    private static boolean isIn(int u, int set) {
        return (set >> u & 1) == 1;
    }

    private boolean isPresent(int u) {
        // The bounds come first because a shift takes only the low five bits of its distance.
        return u >= 0 && u < PLACES && isIn(u, present);
    }

    private boolean isPair(int u, int v) {
        return u != v && isPresent(u) && isPresent(v);
    }

    private int neededBy(int set) {
        int needed = 0;
        for (int u = 0; u < PLACES; u++) {
            if (isIn(u, set)) {
                needed |= needs[u];
            }
        }
        return needed;
    }

    private int worthOf(int set) {
        int sum = 0;
        for (int u = 0; u < PLACES; u++) {
            if (isIn(u, set)) {
                sum += worths[u];
            }
        }
        return sum;
    }

    private boolean isClosedWithWorth(int set, int worth) {
        return closed(set) && worthOf(set) == worth;
    }

    // Every caller leaves at least one closed set to choose from (the empty one, or the closure of
    // the undertaking that must be in), so BAD, below any set's worth, never comes back.
    private int greatestWorth(int wanted, int barred) {
        int greatest = BAD;
        for (int set = 0; set < ALL_SETS; set++) {
            boolean allowed = (set & wanted) == wanted && (set & barred) == 0;
            if (allowed && closed(set)) {
                int worth = worthOf(set);
                greatest = worth > greatest ? worth : greatest;
            }
        }
        return greatest;
    }
}
