/** Each promise of the document: ordinary inputs, the edges it names, and wrong inputs. */
public final class PromiseTest {
    private static final int NONE = -1000;
    private static final int FULL = -2;
    private static final int BAD = -1;
    private static final int[] WRONG_VARIABLES = {
        -1, 4, -2, 5, -4, 8, 100, Integer.MIN_VALUE, Integer.MAX_VALUE, 1 << 30, -(1 << 30)
    };

    private static int wrong = 0;
    private static int asked = 0;

    private static void due(String call, long got, long want) {
        asked++;
        if (got != want) {
            wrong++;
            System.out.println(call + " answered " + got + ", due is " + want);
        }
    }

    private static void due(String call, boolean got, boolean want) {
        due(call, got ? 1L : 0L, want ? 1L : 0L);
    }

    /** An object that has taken the samples, four values each. */
    private static InvariantFinder taken(int... values) {
        InvariantFinder f = new InvariantFinder();
        for (int i = 0; i + 3 < values.length; i += 4) {
            int number = f.sample(values[i], values[i + 1], values[i + 2], values[i + 3]);
            due("taken: sample " + (i / 4 + 1), number, i / 4 + 1);
        }
        return f;
    }

    /** An object whose variable 0 has taken the values, the others 0. */
    private static InvariantFinder column(int... values) {
        InvariantFinder f = new InvariantFinder();
        for (int v : values) {
            f.sample(v, 0, 0, 0);
        }
        return f;
    }

    /** An object with the samples (x, y, 0, 0). */
    private static InvariantFinder points(int... values) {
        InvariantFinder f = new InvariantFinder();
        for (int i = 0; i + 1 < values.length; i += 2) {
            f.sample(values[i], values[i + 1], 0, 0);
        }
        return f;
    }

    private static void dueEmpty(String when, InvariantFinder f) {
        due(when + ": samples", f.samples(), 0);
        due(when + ": equals", f.equals(), 2254);
        for (int x = 0; x < 4; x++) {
            due(when + ": constant", f.constant(x), NONE);
            due(when + ": bound 0", f.bound(x, 0), NONE);
            due(when + ": bound 1", f.bound(x, 1), NONE);
            due(when + ": different", f.different(x), 0);
            due(when + ": valueAt", f.valueAt(x, 0), NONE);
            due(when + ": modulus", f.modulus(x), 0);
            due(when + ": remainder", f.remainder(x), NONE);
            for (int y = 0; y < 4; y++) {
                for (int rel = 0; rel < 4; rel++) {
                    due(when + ": relation", f.relation(x, y, rel), x != y);
                }
                due(when + ": offset", f.offset(x, y), NONE);
                due(when + ": line", f.line(x, y), 0);
                due(when + ": slope", f.slope(x, y), 0);
                due(when + ": rise", f.rise(x, y), 0);
                for (int z = 0; z < 4; z++) {
                    due(when + ": sums", f.sums(x, y, z), true);
                }
            }
        }
    }

    private static void promise1NewObject() {
        dueEmpty("new", new InvariantFinder());
        InvariantFinder one = taken(1, 2, 3, 4);
        dueEmpty("new beside another", new InvariantFinder());
        due("the other keeps its sample", one.samples(), 1);
    }

    private static void promise2Sample() {
        InvariantFinder f = new InvariantFinder();
        due("sample 1", f.sample(1, 2, 3, 4), 1);
        due("sample again", f.sample(1, 2, 3, 4), 2);
        for (int x = 0; x < 4; x++) {
            due("each variable has its own value", f.constant(x), x + 1);
        }
        int[] bad = {101, -101, 1000, -1000, Integer.MAX_VALUE, Integer.MIN_VALUE};
        for (int v : bad) {
            due("bad a", f.sample(v, 0, 0, 0), BAD);
            due("bad b", f.sample(0, v, 0, 0), BAD);
            due("bad c", f.sample(0, 0, v, 0), BAD);
            due("bad d", f.sample(0, 0, 0, v), BAD);
            due("bad all", f.sample(v, v, v, v), BAD);
        }
        due("a bad sample is not taken", f.samples(), 2);
        for (int x = 0; x < 4; x++) {
            due("a bad sample changes no value", f.constant(x), x + 1);
        }
        due("the greatest values", f.sample(100, 100, 100, 100), 3);
        due("the least values", f.sample(-100, -100, -100, -100), 4);
        for (int x = 0; x < 4; x++) {
            due("least", f.bound(x, 0), -100);
            due("greatest", f.bound(x, 1), 100);
        }
    }

    private static InvariantFinder full() {
        InvariantFinder f = new InvariantFinder();
        for (int i = 1; i <= 100; i++) {
            due("sample " + i, f.sample(7, i, -i, i - 50), i);
        }
        return f;
    }

    private static void promise2Full() {
        InvariantFinder f = full();
        due("the 101st", f.sample(0, 0, 0, 0), FULL);
        due("the 101st again", f.sample(100, 100, 100, 100), FULL);
        due("samples when full", f.samples(), 100);
        due("a refused sample changes nothing", f.constant(0), 7);
        due("the last sample counts, greatest", f.bound(1, 1), 100);
        due("the last sample counts, least", f.bound(2, 0), -100);
        due("the first sample counts", f.bound(3, 0), -49);
    }

    private static void promise3Clear() {
        InvariantFinder f = taken(1, 2, 3, 4, 5, 6, 7, 8);
        f.clear();
        dueEmpty("cleared", f);
        f.clear();
        dueEmpty("cleared twice", f);
        due("sample after clear", f.sample(9, 9, 9, 10), 1);
        due("old values are forgotten", f.constant(0), 9);
        due("old values are forgotten in bound", f.bound(0, 0), 9);
        due("old values are forgotten in equals", f.equals(), (1 << 1) | (1 << 2) | (1 << 6));
        InvariantFinder g = full();
        g.clear();
        dueEmpty("cleared when full", g);
        due("there is room again", g.sample(1, 1, 1, 1), 1);
        InvariantFinder h = new InvariantFinder();
        h.clear();
        dueEmpty("new and cleared", h);
    }

    private static void promise4Samples() {
        InvariantFinder f = new InvariantFinder();
        due("none", f.samples(), 0);
        for (int i = 1; i <= 100; i++) {
            f.sample(0, 0, 0, 0);
            due("equal samples are counted each", f.samples(), i);
        }
        f.sample(0, 0, 0, 0);
        due("not above 100", f.samples(), 100);
    }

    private static void promise5Constant() {
        InvariantFinder f = taken(-100, 0, 100, 5, -100, 0, 100, 6);
        due("constant -100", f.constant(0), -100);
        due("constant 0", f.constant(1), 0);
        due("constant 100", f.constant(2), 100);
        due("two values", f.constant(3), NONE);
        due("one sample", taken(1, 2, 3, 4).constant(3), 4);
        due("the last differs", column(1, 1, 1, 2).constant(0), NONE);
        due("the first differs", column(2, 1, 1, 1).constant(0), NONE);
        due("the middle differs", column(1, 2, 1).constant(0), NONE);
        due("many values", column(1, 2, 3, 4, 5, 6).constant(0), NONE);
        for (int x : WRONG_VARIABLES) {
            due("constant(" + x + ")", f.constant(x), NONE);
        }
    }

    private static void promise6Bound() {
        InvariantFinder f = taken(3, -5, 0, 1, -2, 8, 0, 2, 1, 1, 0, 3);
        int[] least = {-2, -5, 0, 1};
        int[] greatest = {3, 8, 0, 3};
        for (int x = 0; x < 4; x++) {
            due("least of " + x, f.bound(x, 0), least[x]);
            due("greatest of " + x, f.bound(x, 1), greatest[x]);
            due("what 2", f.bound(x, 2), NONE);
            due("what -1", f.bound(x, -1), NONE);
            due("what least int", f.bound(x, Integer.MIN_VALUE), NONE);
            due("what greatest int", f.bound(x, Integer.MAX_VALUE), NONE);
        }
        for (int x : WRONG_VARIABLES) {
            due("bound(" + x + ", 0)", f.bound(x, 0), NONE);
            due("bound(" + x + ", 1)", f.bound(x, 1), NONE);
        }
        InvariantFinder below = column(-7, -3, -9);
        due("all negative, least", below.bound(0, 0), -9);
        due("all negative, greatest", below.bound(0, 1), -3);
        InvariantFinder above = column(7, 3, 9);
        due("all positive, least", above.bound(0, 0), 3);
        due("all positive, greatest", above.bound(0, 1), 9);
    }

    private static void promise7Different() {
        due("one", column(5).different(0), 1);
        due("one, again and again", column(5, 5, 5, 5, 5).different(0), 1);
        due("two", column(5, -5, 5).different(0), 2);
        due("three", column(5, -5, 0, 0, 5).different(0), 3);
        due("four", column(1, 2, 3, 4).different(0), 4);
        due("five", column(1, 2, 3, 4, 5).different(0), 4);
        due("the edges", column(-100, 100).different(0), 2);
        InvariantFinder f = full();
        due("a hundred", f.different(1), 4);
        due("one in a hundred samples", f.different(0), 1);
        for (int x : WRONG_VARIABLES) {
            due("different(" + x + ")", f.different(x), BAD);
            due("different(" + x + ") of none", new InvariantFinder().different(x), BAD);
        }
    }

    private static void promise8ValueAt() {
        InvariantFinder f = column(5, -100, 100, 5);
        due("the least", f.valueAt(0, 0), -100);
        due("the middle", f.valueAt(0, 1), 5);
        due("the greatest", f.valueAt(0, 2), 100);
        due("k is their number", f.valueAt(0, 3), NONE);
        due("k is negative", f.valueAt(0, -1), NONE);
        due("k is the least int", f.valueAt(0, Integer.MIN_VALUE), NONE);
        due("k is the greatest int", f.valueAt(0, Integer.MAX_VALUE), NONE);
        due("another variable", f.valueAt(1, 0), 0);
        due("another variable has one value", f.valueAt(1, 1), NONE);
        InvariantFinder two = column(9, 8);
        due("two, least", two.valueAt(0, 0), 8);
        due("two, greatest", two.valueAt(0, 1), 9);
        due("two, no third", two.valueAt(0, 2), NONE);
        InvariantFinder four = column(4, 3, 2, 1);
        for (int k = -2; k <= 5; k++) {
            due("four values", four.valueAt(0, k), NONE);
        }
        for (int x : WRONG_VARIABLES) {
            for (int k = -3; k <= 3; k++) {
                due("valueAt(" + x + ", " + k + ")", f.valueAt(x, k), NONE);
            }
        }
    }

    private static void dueModulus(int m, int rest, int... values) {
        InvariantFinder f = column(values);
        String of = java.util.Arrays.toString(values);
        due("modulus of " + of, f.modulus(0), m);
        due("remainder of " + of, f.remainder(0), rest);
    }

    private static void promises9And10Modulus() {
        dueModulus(0, NONE, 5);
        dueModulus(0, NONE, 5, 5, 5);
        dueModulus(0, NONE, -100, -100);
        dueModulus(200, 100, 100, -100);
        dueModulus(200, 100, -100, 100, 100);
        dueModulus(199, 99, 99, -100);
        dueModulus(199, 100, -99, 100);
        dueModulus(100, 0, 100, 0, -100);
        dueModulus(2, 1, -1, 1);
        dueModulus(2, 1, 7, 3, 1);
        dueModulus(2, 0, 0, 2, 6, 10, 16);
        dueModulus(1, NONE, 4, 5);
        dueModulus(1, NONE, 0, 6, 10, 15);
        dueModulus(6, 0, 0, 12, 18);
        dueModulus(6, 5, -1, 11, 17);
        dueModulus(7, 3, -4, 3, 10, 17, 24);
        dueModulus(7, 4, -3, -10, -17);
        dueModulus(50, 0, -50, -100, 50);
        dueModulus(197, 98, 98, -99);
        InvariantFinder f = taken(1, 10, 5, -7, 4, 20, 5, 3);
        int[] m = {3, 10, 0, 10};
        int[] rest = {1, 0, NONE, 3};
        for (int x = 0; x < 4; x++) {
            due("modulus(" + x + ")", f.modulus(x), m[x]);
            due("remainder(" + x + ")", f.remainder(x), rest[x]);
        }
        for (int x : WRONG_VARIABLES) {
            due("modulus(" + x + ")", f.modulus(x), BAD);
            due("modulus(" + x + ") of none", new InvariantFinder().modulus(x), BAD);
            due("remainder(" + x + ")", f.remainder(x), NONE);
            due("remainder(" + x + ") of none", new InvariantFinder().remainder(x), NONE);
        }
    }

    private static void dueRelations(String when, InvariantFinder f, int bits) {
        for (int rel = 0; rel < 4; rel++) {
            due(when + ", rel " + rel, f.relation(0, 1, rel), (bits >> rel & 1) == 1);
        }
    }

    private static void promise11Relation() {
        dueRelations("always less", points(1, 2, -5, 0), 0b1011);
        dueRelations("less or equal", points(1, 2, 3, 3), 0b0010);
        dueRelations("always equal", points(1, 1, -3, -3), 0b0110);
        dueRelations("always greater", points(2, 1, 0, -5), 0b1000);
        dueRelations("less or greater", points(2, 1, 1, 2), 0b1000);
        dueRelations("greater or equal", points(2, 1, 1, 1), 0b0000);
        dueRelations("the last breaks it", points(1, 2, 1, 2, 2, 1), 0b1000);
        dueRelations("the first breaks it", points(2, 1, 1, 2, 1, 2), 0b1000);
        dueRelations("the middle breaks it", points(1, 2, 2, 1, 1, 2), 0b1000);
        InvariantFinder f = taken(1, 2, 3, 4);
        for (int x = 0; x < 4; x++) {
            for (int y = 0; y < 4; y++) {
                due("less " + x + " " + y, f.relation(x, y, 0), x < y);
                due("at most " + x + " " + y, f.relation(x, y, 1), x < y);
                due("equal " + x + " " + y, f.relation(x, y, 2), false);
                due("unequal " + x + " " + y, f.relation(x, y, 3), x != y);
            }
        }
        dueWrongRelations(f);
        dueWrongRelations(new InvariantFinder());
    }

    private static void dueWrongRelations(InvariantFinder f) {
        for (int other : WRONG_VARIABLES) {
            for (int rel = 0; rel < 4; rel++) {
                due("relation(" + other + ", 1, .)", f.relation(other, 1, rel), false);
                due("relation(0, " + other + ", .)", f.relation(0, other, rel), false);
                due("relation(0, 0, .)", f.relation(0, 0, rel), false);
            }
            due("relation(0, 1, " + other + ")", f.relation(0, 1, other), false);
        }
    }

    private static void promise12Offset() {
        due("y = x + 3", points(1, 4, -2, 1, 90, 93).offset(0, 1), 3);
        due("x = y - 3", points(1, 4, -2, 1, 90, 93).offset(1, 0), -3);
        due("0", points(5, 5).offset(0, 1), 0);
        due("200", points(-100, 100).offset(0, 1), 200);
        due("-200", points(100, -100).offset(0, 1), -200);
        due("the last breaks it", points(1, 4, 1, 4, 1, 5).offset(0, 1), NONE);
        due("the first breaks it", points(1, 5, 1, 4, 1, 4).offset(0, 1), NONE);
        due("the middle breaks it", points(1, 4, 1, 5, 1, 4).offset(0, 1), NONE);
        due("the second of two breaks it", points(1, 4, 1, 5).offset(0, 1), NONE);
        InvariantFinder f = taken(1, 3, 6, 10);
        int[] v = {1, 3, 6, 10};
        for (int x = 0; x < 4; x++) {
            for (int y = 0; y < 4; y++) {
                due("offset " + x + " " + y, f.offset(x, y), x == y ? NONE : v[y] - v[x]);
            }
        }
        for (int other : WRONG_VARIABLES) {
            due("offset(" + other + ", 1)", f.offset(other, 1), NONE);
            due("offset(0, " + other + ")", f.offset(0, other), NONE);
            due("offset of both " + other, f.offset(other, other), NONE);
        }
    }

    private static void dueLine(InvariantFinder f, int x, int y, int p, int q, int r) {
        due("line(" + x + ", " + y + ")", f.line(x, y), p);
        due("slope(" + x + ", " + y + ")", f.slope(x, y), q);
        due("rise(" + x + ", " + y + ")", f.rise(x, y), r);
    }

    private static void promises13To15Line() {
        dueLine(points(0, 1, 1, 3, 2, 5), 0, 1, 1, 2, 1);
        dueLine(points(0, 1, 1, 3, 2, 5), 1, 0, 2, 1, -1);
        dueLine(points(2, 5, 1, 3, 0, 1), 0, 1, 1, 2, 1);
        dueLine(points(1, 3, 2, 1), 0, 1, 1, -2, 5);
        dueLine(points(1, 3, 2, 1), 1, 0, 2, -1, 5);
        dueLine(points(0, 0, 3, 2, -3, -2), 0, 1, 3, 2, 0);
        dueLine(points(0, 0, 6, 4), 0, 1, 3, 2, 0);
        dueLine(points(1, 0, 7, 4), 0, 1, 3, 2, -2);
        dueLine(points(-100, -100, 100, 99), 0, 1, 200, 199, -100);
        dueLine(points(-100, 100, 100, -99), 0, 1, 200, -199, 100);
        dueLine(points(99, 100, 100, -100), 0, 1, 1, -200, 19900);
        dueLine(points(-99, -100, -100, 100), 0, 1, 1, -200, -19900);
        dueLine(points(-100, -100, 100, 100), 0, 1, 1, 1, 0);
        dueLine(points(100, 100, -99, -100), 1, 0, 200, 199, 100);
        dueLine(points(4, 4, 4, 4, 6, 6, 6, 6), 0, 1, 1, 1, 0);
    }

    private static void promises13To15NoLine() {
        dueLine(points(1, 2), 0, 1, 0, 0, 0);
        dueLine(points(1, 2, 1, 2), 0, 1, 0, 0, 0);
        dueLine(points(1, 2, 1, 3), 0, 1, 0, 0, 0);
        dueLine(points(1, 2, 3, 2), 0, 1, 0, 0, 0);
        dueLine(points(1, 2, 3, 4, 3, 5), 0, 1, 0, 0, 0);
        dueLine(points(1, 2, 1, 3, 3, 4), 0, 1, 0, 0, 0);
        dueLine(points(1, 1, 2, 2, 3, 4), 0, 1, 0, 0, 0);
        dueLine(points(1, 0, 2, 2, 3, 3), 0, 1, 0, 0, 0);
        dueLine(points(1, 1, 2, 3, 3, 3), 0, 1, 0, 0, 0);
        dueLine(points(0, 0, 1, 1, 2, 0), 0, 1, 0, 0, 0);
        InvariantFinder f = taken(1, 10, 5, 0, 2, 8, 5, 3);
        dueLine(f, 0, 1, 1, -2, 12);
        dueLine(f, 1, 3, 2, -3, 30);
        dueLine(f, 3, 0, 3, 1, 3);
        dueLine(f, 0, 2, 0, 0, 0);
        dueLine(f, 2, 0, 0, 0, 0);
        for (int x = 0; x < 4; x++) {
            dueLine(f, x, x, 0, 0, 0);
        }
        for (int other : WRONG_VARIABLES) {
            dueLine(f, other, 1, 0, 0, 0);
            dueLine(f, 0, other, 0, 0, 0);
            dueLine(f, other, other, 0, 0, 0);
        }
        f.clear();
        dueLine(f, 0, 1, 0, 0, 0);
    }

    private static void promise16Equals() {
        due("all equal", taken(1, 1, 1, 1).equals(), 2254);
        due("none equal", taken(1, 2, 3, 4).equals(), 0);
        due("0 and 1", taken(1, 1, 2, 3).equals(), 1 << 1);
        due("0 and 2", taken(1, 2, 1, 3).equals(), 1 << 2);
        due("0 and 3", taken(1, 2, 3, 1).equals(), 1 << 3);
        due("1 and 2", taken(1, 2, 2, 3).equals(), 1 << 6);
        due("1 and 3", taken(1, 2, 3, 2).equals(), 1 << 7);
        due("2 and 3", taken(1, 2, 3, 3).equals(), 1 << 11);
        due("two pairs", taken(1, 1, 2, 2).equals(), (1 << 1) | (1 << 11));
        due("broken later", taken(1, 1, 2, 2, 5, 6, 7, 7).equals(), 1 << 11);
        due("broken first", taken(5, 6, 7, 7, 1, 1, 2, 2).equals(), 1 << 11);
    }

    private static void promise17Sums() {
        InvariantFinder f = taken(1, 2, 3, 0, -4, 9, 5, 0);
        due("0 + 1 = 2", f.sums(0, 1, 2), true);
        due("1 + 0 = 2", f.sums(1, 0, 2), true);
        due("0 + 2 = 1", f.sums(0, 2, 1), false);
        due("3 + 3 = 3", f.sums(3, 3, 3), true);
        due("0 + 3 = 0", f.sums(0, 3, 0), true);
        due("3 + 2 = 2", f.sums(3, 2, 2), true);
        due("0 + 0 = 0", f.sums(0, 0, 0), false);
        due("twice", taken(4, 8, 0, 0, -3, -6, 0, 0).sums(0, 0, 1), true);
        due("a sum above 100", taken(100, 100, 100, 100).sums(0, 1, 2), false);
        due("the last breaks it", taken(1, 2, 3, 0, 1, 2, 4, 0).sums(0, 1, 2), false);
        due("the first breaks it", taken(1, 2, 4, 0, 1, 2, 3, 0).sums(0, 1, 2), false);
        due("the middle breaks it", taken(1, 2, 3, 0, 1, 2, 4, 0, 1, 2, 3, 0).sums(0, 1, 2), false);
        dueWrongSums(f);
        dueWrongSums(taken(0, 0, 0, 0));
        dueWrongSums(new InvariantFinder());
    }

    private static void dueWrongSums(InvariantFinder f) {
        for (int other : WRONG_VARIABLES) {
            due("sums(" + other + ", 1, 2)", f.sums(other, 1, 2), false);
            due("sums(0, " + other + ", 2)", f.sums(0, other, 2), false);
            due("sums(0, 1, " + other + ")", f.sums(0, 1, other), false);
            due("sums of all " + other, f.sums(other, other, other), false);
        }
    }

    private static void promise18Order() {
        InvariantFinder f = full();
        due("BAD before FULL, a", f.sample(101, 0, 0, 0), BAD);
        due("BAD before FULL, b", f.sample(0, -101, 0, 0), BAD);
        due("BAD before FULL, c", f.sample(0, 0, 101, 0), BAD);
        due("BAD before FULL, d", f.sample(0, 0, 0, -101), BAD);
        due("FULL after them", f.sample(0, 0, 0, 0), FULL);
        due("samples after them", f.samples(), 100);
    }

    private static void constants() {
        due("NONE", InvariantFinder.NONE, NONE);
        due("FULL", InvariantFinder.FULL, FULL);
        due("BAD", InvariantFinder.BAD, BAD);
    }

    public static void main(String[] args) {
        constants();
        promise1NewObject();
        promise2Sample();
        promise2Full();
        promise3Clear();
        promise4Samples();
        promise5Constant();
        promise6Bound();
        promise7Different();
        promise8ValueAt();
        promises9And10Modulus();
        promise11Relation();
        promise12Offset();
        promises13To15Line();
        promises13To15NoLine();
        promise16Equals();
        promise17Sums();
        promise18Order();
        System.out.println(asked + " answers, " + wrong + " of them not as due");
        if (wrong != 0) {
            System.exit(1);
        }
    }
}
