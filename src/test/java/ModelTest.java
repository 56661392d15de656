import java.util.ArrayList;
import java.util.List;
import java.util.TreeSet;

/**
 * Long runs of mixed calls, each answer compared with one that is computed from the
 * document's words by plain search, in another way than the program does it.
 */
public final class ModelTest {
    private static final int NONE = -1000;
    private static final int CALLS = 512;
    private static final int RUNS = 200;

    private static int wrong = 0;
    private static int asked = 0;

    private static void due(int run, String call, long got, long want) {
        asked++;
        if (got != want) {
            wrong++;
            System.out.println("run " + run + ": " + call + " answered " + got + ", due is " + want);
        }
    }

    private static long bit(boolean b) {
        return b ? 1L : 0L;
    }

    /** A fixed sequence of numbers, so that every run of the test is the same. */
    private static long seed;

    private static int pick(int least, int greatest) {
        seed = seed * 6364136223846793005L + 1442695040888963407L;
        int width = greatest - least + 1;
        return least + (int) ((seed >>> 33) % width);
    }

    /** What the document says, over a plain list of samples. */
    private static final class Model {
        final List<int[]> taken = new ArrayList<>();

        static boolean variable(int x) {
            return 0 <= x && x <= 3;
        }

        int sample(int[] s) {
            for (int v : s) {
                if (v < -100 || v > 100) {
                    return -1;
                }
            }
            if (taken.size() == 100) {
                return -2;
            }
            taken.add(s.clone());
            return taken.size();
        }

        TreeSet<Integer> values(int x) {
            TreeSet<Integer> all = new TreeSet<>();
            for (int[] s : taken) {
                all.add(s[x]);
            }
            return all;
        }

        int constant(int x) {
            return variable(x) && values(x).size() == 1 ? values(x).first() : NONE;
        }

        int bound(int x, int what) {
            if (!variable(x) || taken.isEmpty() || what < 0 || what > 1) {
                return NONE;
            }
            return what == 0 ? values(x).first() : values(x).last();
        }

        int different(int x) {
            return variable(x) ? Math.min(4, values(x).size()) : -1;
        }

        int valueAt(int x, int k) {
            if (!variable(x) || values(x).size() > 3 || k < 0 || k >= values(x).size()) {
                return NONE;
            }
            return new ArrayList<>(values(x)).get(k);
        }

        int modulus(int x) {
            if (!variable(x)) {
                return -1;
            }
            TreeSet<Integer> all = values(x);
            if (all.size() < 2) {
                return 0;
            }
            int best = 1;
            for (int m = 2; m <= 200; m++) {
                TreeSet<Integer> rests = new TreeSet<>();
                for (int v : all) {
                    rests.add(Math.floorMod(v, m));
                }
                if (rests.size() == 1) {
                    best = m;
                }
            }
            return best;
        }

        int remainder(int x) {
            int m = modulus(x);
            return m >= 2 ? Math.floorMod(taken.get(0)[x], m) : NONE;
        }

        boolean relation(int x, int y, int rel) {
            if (!variable(x) || !variable(y) || x == y || rel < 0 || rel > 3) {
                return false;
            }
            boolean holds = true;
            for (int[] s : taken) {
                boolean[] now = {s[x] < s[y], s[x] <= s[y], s[x] == s[y], s[x] != s[y]};
                holds &= now[rel];
            }
            return holds;
        }

        int offset(int x, int y) {
            if (!variable(x) || !variable(y) || x == y || taken.isEmpty()) {
                return NONE;
            }
            for (int c = -200; c <= 200; c++) {
                boolean holds = true;
                for (int[] s : taken) {
                    holds &= s[y] == s[x] + c;
                }
                if (holds) {
                    return c;
                }
            }
            return NONE;
        }

        /** The choice p, q, r, or three times 0; every p and q is tried. */
        int[] line(int x, int y) {
            int[] found = {0, 0, 0};
            if (!variable(x) || !variable(y) || x == y || values(x).size() < 2) {
                return found;
            }
            int choices = 0;
            for (int p = 1; p <= 200; p++) {
                for (int q = -200; q <= 200; q++) {
                    int r = p * taken.get(0)[y] - q * taken.get(0)[x];
                    if (q != 0 && holds(x, y, p, q, r) && divisor(divisor(p, q), r) == 1) {
                        found = new int[] {p, q, r};
                        choices++;
                    }
                }
            }
            if (choices > 1) {
                throw new IllegalStateException("the model found more than one choice");
            }
            return found;
        }

        private boolean holds(int x, int y, int p, int q, int r) {
            for (int[] s : taken) {
                if (p * s[y] != q * s[x] + r) {
                    return false;
                }
            }
            return true;
        }

        private static int divisor(int a, int b) {
            return b == 0 ? Math.abs(a) : divisor(b, a % b);
        }

        int equalPairs() {
            int bits = 0;
            for (int x = 0; x < 4; x++) {
                for (int y = x + 1; y < 4; y++) {
                    if (relation(x, y, 2)) {
                        bits += 1 << (4 * x + y);
                    }
                }
            }
            return bits;
        }

        boolean sums(int x, int y, int z) {
            if (!variable(x) || !variable(y) || !variable(z)) {
                return false;
            }
            for (int[] s : taken) {
                if (s[z] - s[y] != s[x]) {
                    return false;
                }
            }
            return true;
        }
    }

    private static int within(int v) {
        return Math.max(-100, Math.min(100, v));
    }

    /** Samples of one kind in a run, so that something often holds for all of them. */
    private static int[] nextSample(int kind) {
        int a = pick(-6, 6);
        switch (kind) {
            case 0:
                return new int[] {a, pick(-1, 1), pick(0, 1), 7};
            case 1:
                return new int[] {a, 3 * a + 2, -2 * a, within(5 - 7 * a)};
            case 2:
                return new int[] {2 * a, 3 * a - 1, -5 * a + 4, pick(-3, 3) * 4 + 1};
            case 3:
                return new int[] {a, a, a + 9, 2 * a};
            case 4:
                return new int[] {100 * pick(-1, 1), 100 - 200 * pick(0, 1), 99 - 199 * pick(0, 1), a};
            case 5:
                return new int[] {a, pick(-5, 5), 0, pick(10, 20)};
            case 6:
                return new int[] {pick(-100, 100), pick(-100, 100), pick(-100, 100), pick(-100, 100)};
            default:
                int b = pick(-40, 40);
                return new int[] {a, b, a + b, within(a - b)};
        }
    }

    private static int oddVariable() {
        int[] odd = {-1, 4, 5, -4, Integer.MAX_VALUE, Integer.MIN_VALUE};
        return pick(0, 15) == 0 ? odd[pick(0, odd.length - 1)] : pick(0, 3);
    }

    private static void takeSample(int run, InvariantFinder f, Model m, int kind) {
        int[] s = nextSample(pick(0, 120) == 0 ? 6 : kind);
        if (pick(0, 15) == 0) {
            s[pick(0, 3)] = pick(0, 1) == 0 ? 101 : -101;
        }
        String call = "sample(" + s[0] + ", " + s[1] + ", " + s[2] + ", " + s[3] + ")";
        due(run, call, f.sample(s[0], s[1], s[2], s[3]), m.sample(s));
    }

    private static void ask(int run, InvariantFinder f, Model m) {
        int x = oddVariable();
        int y = oddVariable();
        int z = pick(-1, 4);
        String one = "(" + x + ")";
        String two = "(" + x + ", " + y + ")";
        String withZ = "(" + x + ", " + z + ")";
        switch (pick(0, 13)) {
            case 0: due(run, "samples()", f.samples(), m.taken.size()); break;
            case 1: due(run, "constant" + one, f.constant(x), m.constant(x)); break;
            case 2: due(run, "bound" + withZ, f.bound(x, z), m.bound(x, z)); break;
            case 3: due(run, "different" + one, f.different(x), m.different(x)); break;
            case 4: due(run, "valueAt" + withZ, f.valueAt(x, z), m.valueAt(x, z)); break;
            case 5: due(run, "modulus" + one, f.modulus(x), m.modulus(x)); break;
            case 6: due(run, "remainder" + one, f.remainder(x), m.remainder(x)); break;
            case 7: due(run, "relation" + two + " " + z, bit(f.relation(x, y, z)), bit(m.relation(x, y, z))); break;
            case 8: due(run, "offset" + two, f.offset(x, y), m.offset(x, y)); break;
            case 9: due(run, "line" + two, f.line(x, y), m.line(x, y)[0]); break;
            case 10: due(run, "slope" + two, f.slope(x, y), m.line(x, y)[1]); break;
            case 11: due(run, "rise" + two, f.rise(x, y), m.line(x, y)[2]); break;
            case 12: due(run, "equals()", f.equals(), m.equalPairs()); break;
            default: due(run, "sums" + two + " " + z, bit(f.sums(x, y, z)), bit(m.sums(x, y, z))); break;
        }
    }

    private static void oneRun(int run) {
        InvariantFinder f = new InvariantFinder();
        Model m = new Model();
        int kind = run % 8;
        // Some runs sample so often that the object fills; others so seldom that few are taken.
        int often = 1 + run / 8 % 5 * 2;
        for (int call = 0; call < CALLS; call++) {
            if (pick(0, 299) == 0) {
                f.clear();
                m.taken.clear();
            } else if (pick(0, 19) < often) {
                takeSample(run, f, m, kind);
            } else {
                ask(run, f, m);
            }
        }
    }

    public static void main(String[] args) {
        seed = 20261115L;
        for (int run = 0; run < RUNS; run++) {
            oneRun(run);
        }
        System.out.println(asked + " answers, " + wrong + " of them not as due");
        if (wrong != 0) {
            System.exit(1);
        }
    }
}
