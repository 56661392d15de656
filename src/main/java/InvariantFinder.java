/** Finds what holds for all samples seen so far. */
public final class InvariantFinder {
    public static final int NONE = -1000;
    public static final int FULL = -2;
    public static final int BAD = -1;

    private static final int VARIABLES = 4;
    private static final int MOST_SAMPLES = 100;
    private static final int MOST_CELLS = 400;
    private static final int LEAST_VALUE = -100;
    private static final int GREATEST_VALUE = 100;
    private static final int BELOW_ALL_VALUES = -101;
    // Two values are never further apart than this.
    private static final int WIDEST_GAP = 200;
    private static final int MOST_LISTED = 3;

    private static final int LESS = 0;
    private static final int AT_MOST = 1;
    private static final int EQUAL = 2;
    private static final int UNEQUAL = 3;

    // The value of variable x in sample i stands at VARIABLES * i + x.
    private final int[] cells = new int[MOST_CELLS];
    private int count;

    public InvariantFinder() {
        count = 0;
    }

    public int sample(int a, int b, int c, int d) {
        if (!isValue(a) || !isValue(b) || !isValue(c) || !isValue(d)) {
            return BAD;
        }
        if (count >= MOST_SAMPLES) {
            return FULL;
        }
        int start = VARIABLES * count;
        cells[start] = a;
        cells[start + 1] = b;
        cells[start + 2] = c;
        cells[start + 3] = d;
        count++;
        return count;
    }

    public void clear() {
        count = 0;
    }

    public int samples() {
        return count;
    }

    public int constant(int x) {
        if (different(x) != 1) {
            return NONE;
        }
        return value(0, x);
    }

    public int bound(int x, int what) {
        if (!isVariable(x) || count == 0) {
            return NONE;
        }
        if (what == 0) {
            int lowest = sampleOfLeast(x);
            return value(lowest, x);
        }
        if (what == 1) {
            int highest = sampleOfGreatest(x);
            return value(highest, x);
        }
        return NONE;
    }

    public int different(int x) {
        if (!isVariable(x)) {
            return BAD;
        }
        int last = BELOW_ALL_VALUES;
        for (int found = 0; found <= MOST_LISTED; found++) {
            last = leastAbove(x, last);
            if (last == NONE) {
                return found;
            }
        }
        return MOST_LISTED + 1;
    }

    public int valueAt(int x, int k) {
        // A wrong x has the number BAD here, which no k from 0 on is below.
        int number = different(x);
        if (number > MOST_LISTED || k < 0 || k >= number) {
            return NONE;
        }
        int listed = leastAbove(x, BELOW_ALL_VALUES);
        for (int i = 0; i < k; i++) {
            listed = leastAbove(x, listed);
        }
        return listed;
    }

    public int modulus(int x) {
        int number = different(x);
        if (number == BAD) {
            return BAD;
        }
        if (number < 2) {
            return 0;
        }
        for (int m = WIDEST_GAP; m >= 2; m--) {
            if (leavesOneRemainder(x, m)) {
                return m;
            }
        }
        return 1;
    }

    public int remainder(int x) {
        int m = modulus(x);
        if (m < 2) {
            return NONE;
        }
        int rest = value(0, x) % m;
        // Java's rest of a negative value is negative; the document's is not.
        return rest < 0 ? rest + m : rest;
    }

    public boolean relation(int x, int y, int rel) {
        if (!isPair(x, y) || rel < LESS || rel > UNEQUAL) {
            return false;
        }
        return relationHolds(x, y, rel);
    }

    public int offset(int x, int y) {
        if (!isPair(x, y) || count == 0) {
            return NONE;
        }
        int c = value(0, y) - value(0, x);
        for (int i = 1; i < count; i++) {
            if (value(i, y) - value(i, x) != c) {
                return NONE;
            }
        }
        return c;
    }

    public int line(int x, int y) {
        if (!isPair(x, y)) {
            return 0;
        }
        int across = wayOf(x, x);
        int up = wayOf(y, x);
        if (across == 0 || up == 0 || !isOnOneLine(x, y, across, up)) {
            return 0;
        }
        return across / greatestCommonDivisor(across, up);
    }

    public int slope(int x, int y) {
        if (line(x, y) == 0) {
            return 0;
        }
        int across = wayOf(x, x);
        int up = wayOf(y, x);
        return up / greatestCommonDivisor(across, up);
    }

    public int rise(int x, int y) {
        int p = line(x, y);
        if (p == 0) {
            return 0;
        }
        int q = slope(x, y);
        return p * value(0, y) - q * value(0, x);
    }

    public int equals() {
        int pairs = 0;
        for (int x = 0; x < VARIABLES; x++) {
            for (int y = x + 1; y < VARIABLES; y++) {
                if (relationHolds(x, y, EQUAL)) {
                    pairs |= 1 << (4 * x + y);
                }
            }
        }
        return pairs;
    }

    public boolean sums(int x, int y, int z) {
        if (!isVariable(x) || !isVariable(y) || !isVariable(z)) {
            return false;
        }
        for (int i = 0; i < count; i++) {
            if (value(i, x) + value(i, y) != value(i, z)) {
                return false;
            }
        }
        return true;
    }

    private static boolean isValue(int v) {
        return v >= LEAST_VALUE && v <= GREATEST_VALUE;
    }

    private static boolean isVariable(int x) {
        return x >= 0 && x < VARIABLES;
    }

    private static boolean isPair(int x, int y) {
        return isVariable(x) && isVariable(y) && x != y;
    }

    private int value(int i, int x) {
        return cells[VARIABLES * i + x];
    }

    private int sampleOfLeast(int x) {
        int best = 0;
        for (int i = 1; i < count; i++) {
            if (value(i, x) < value(best, x)) {
                best = i;
            }
        }
        return best;
    }

    private int sampleOfGreatest(int x) {
        int best = 0;
        for (int i = 1; i < count; i++) {
            if (value(i, x) > value(best, x)) {
                best = i;
            }
        }
        return best;
    }

    private int leastAbove(int x, int floor) {
        int least = NONE;
        for (int i = 0; i < count; i++) {
            int v = value(i, x);
            if (v > floor && (least == NONE || v < least)) {
                least = v;
            }
        }
        return least;
    }

    private boolean leavesOneRemainder(int x, int m) {
        // Differences are compared, so the sign of Java's rest does not matter.
        for (int i = 1; i < count; i++) {
            if ((value(i, x) - value(0, x)) % m != 0) {
                return false;
            }
        }
        return true;
    }

    private boolean relationHolds(int x, int y, int rel) {
        for (int i = 0; i < count; i++) {
            int v = value(i, x);
            int w = value(i, y);
            if (!isRelated(v, w, rel)) {
                return false;
            }
        }
        return true;
    }

    private static boolean isRelated(int v, int w, int rel) {
        switch (rel) {
            case LESS:
                return v < w;
            case AT_MOST:
                return v <= w;
            case EQUAL:
                return v == w;
            default:
                return v != w;
        }
    }

    // How far y goes while x goes from its least value to its greatest. Taken in
    // this direction, the way of x itself is never negative, as p must not be;
    // with no sample both ends are the same unused cell, and the way is 0.
    private int wayOf(int y, int x) {
        int lowest = sampleOfLeast(x);
        int highest = sampleOfGreatest(x);
        return value(highest, y) - value(lowest, y);
    }

    private boolean isOnOneLine(int x, int y, int across, int up) {
        for (int i = 1; i < count; i++) {
            int overX = value(i, x) - value(0, x);
            int overY = value(i, y) - value(0, y);
            if (overY * across != overX * up) {
                return false;
            }
        }
        return true;
    }

    // Counts down instead of dividing in turn, so that the loop's end is plain.
    private static int greatestCommonDivisor(int a, int b) {
        for (int m = WIDEST_GAP; m > 1; m--) {
            if (a % m == 0 && b % m == 0) {
                return m;
            }
        }
        return 1;
    }
}
