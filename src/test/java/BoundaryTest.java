import java.util.Arrays;
import java.util.function.Supplier;

/**
 * One test for each sentence of the document that names a boundary case: too small, too large,
 * empty, full, a wrap-around, a refused call. A test is named by the document's own words, so
 * that a failure says which sentence is broken. No object here gets more than 512 calls.
 */
public final class BoundaryTest {
    private static final int NONE = -1000;
    private static final int FULL = -2;
    private static final int BAD = -1;
    private static final int ALL_PAIRS = 1 << 1 | 1 << 2 | 1 << 3 | 1 << 6 | 1 << 7 | 1 << 11;

    // The neighbours of 0 .. 3 come first; the others become 0 .. 3 in a byte, a short or times 4.
    private static final int[] NOT_0_TO_3 = {
        -1, 4, -4, 5, 100, 256, 259, -256, 65536, 65539, 1 << 30, (1 << 30) + 1,
        Integer.MIN_VALUE, Integer.MIN_VALUE + 3, Integer.MAX_VALUE
    };
    private static final int[] TOO_SMALL = {-101, -102, -256, -1000, -65536, Integer.MIN_VALUE};
    private static final int[] TOO_LARGE = {101, 102, 256, 1000, 65536, Integer.MAX_VALUE};

    private static String sentence = "";
    private static int tests = 0;
    private static int asked = 0;
    private static int wrong = 0;

    private static void test(String words, Runnable calls) {
        sentence = words;
        tests++;
        int before = asked;
        try {
            calls.run();
        } catch (RuntimeException thrown) {
            fault("threw " + thrown);
        }
        if (asked == before) {
            fault("asked nothing");
        }
    }

    private static void fault(String what) {
        wrong++;
        System.out.println("[" + sentence + "] " + what);
    }

    private static void due(String call, long got, long want) {
        asked++;
        if (got != want) {
            fault(call + " answered " + got + ", due is " + want);
        }
    }

    private static void due(String call, boolean got, boolean want) {
        due(call, got ? 1L : 0L, want ? 1L : 0L);
    }

    // Objects to ask

    private static InvariantFinder none() {
        return new InvariantFinder();
    }

    private static InvariantFinder cleared() {
        InvariantFinder f = samples(1, 2, 3, 4, 5, 5, 5, 5);
        f.clear();
        return f;
    }

    /** Has taken the samples, four values each. */
    private static InvariantFinder samples(int... v) {
        InvariantFinder f = new InvariantFinder();
        for (int i = 0; i < v.length; i += 4) {
            f.sample(v[i], v[i + 1], v[i + 2], v[i + 3]);
        }
        return f;
    }

    /** Variable x has taken the values, the others 0. */
    private static InvariantFinder column(int x, int... values) {
        InvariantFinder f = new InvariantFinder();
        for (int v : values) {
            int[] s = new int[4];
            s[x] = v;
            f.sample(s[0], s[1], s[2], s[3]);
        }
        return f;
    }

    /** Variables x and y have taken the values pair by pair, the others 0. */
    private static InvariantFinder points(int x, int y, int... values) {
        InvariantFinder f = new InvariantFinder();
        for (int i = 0; i < values.length; i += 2) {
            int[] s = new int[4];
            s[x] = values[i];
            s[y] = values[i + 1];
            f.sample(s[0], s[1], s[2], s[3]);
        }
        return f;
    }

    private static InvariantFinder repeated(int times, int a, int b, int c, int d) {
        InvariantFinder f = new InvariantFinder();
        for (int i = 0; i < times; i++) {
            f.sample(a, b, c, d);
        }
        return f;
    }

    /** The values 1, 2, .. number of variable 0, as a column. */
    private static int[] upTo(int number) {
        int[] values = new int[number];
        for (int i = 0; i < number; i++) {
            values[i] = i + 1;
        }
        return values;
    }

    /** Every question with right arguments, and those of one variable with its neighbours -1 and 4. */
    private static int[] answers(Supplier<InvariantFinder> given) {
        int[] all = new int[300];
        int n = 0;
        all[n++] = given.get().samples();
        all[n++] = given.get().equals();
        for (int x = -1; x <= 4; x++) {
            all[n++] = given.get().constant(x);
            all[n++] = given.get().bound(x, 0);
            all[n++] = given.get().bound(x, 1);
            all[n++] = given.get().different(x);
            all[n++] = given.get().modulus(x);
            all[n++] = given.get().remainder(x);
            for (int k = 0; k < 3; k++) {
                all[n++] = given.get().valueAt(x, k);
            }
        }
        for (int x = 0; x < 4; x++) {
            for (int y = 0; y < 4; y++) {
                for (int z = 0; z < 4; z++) {
                    all[n++] = given.get().sums(x, y, z) ? 1 : 0;
                    all[n++] = x != y && given.get().relation(x, y, z) ? 1 : 0;
                }
                if (x != y) {
                    all[n++] = given.get().offset(x, y);
                    all[n++] = given.get().line(x, y);
                    all[n++] = given.get().slope(x, y);
                    all[n++] = given.get().rise(x, y);
                }
            }
        }
        return all;
    }

    private static void dueSame(String when, InvariantFinder f, InvariantFinder twin) {
        int[] got = answers(() -> f);
        int[] want = answers(() -> twin);
        due(when + ": the first unlike answer", Arrays.mismatch(got, want), -1);
    }

    private static void dueNothingTaken(String when, InvariantFinder f) {
        due(when + ": samples()", f.samples(), 0);
        for (int x = 0; x < 4; x++) {
            due(when + ": constant(" + x + ")", f.constant(x), NONE);
            due(when + ": bound(" + x + ", 0)", f.bound(x, 0), NONE);
            due(when + ": bound(" + x + ", 1)", f.bound(x, 1), NONE);
            due(when + ": different(" + x + ")", f.different(x), 0);
        }
    }

    // What it is, and Terms

    /** Has 511 calls behind it, with full and cleared in turn; the samples left are two. */
    private static InvariantFinder longUsed() {
        InvariantFinder f = new InvariantFinder();
        for (int turn = 0; turn < 5; turn++) {
            for (int i = 0; i < 100; i++) {
                f.sample(i, -i, 50 - i, turn);
            }
            f.clear();
        }
        f.sample(1, 3, 5, 4);
        f.sample(2, 5, 5, 7);
        for (int i = 0; i < 4; i++) {
            f.sample(101, 0, 0, 0);
        }
        return f;
    }

    private static void the512thCall() {
        due("sample", longUsed().sample(0, 0, 0, 0), 3);
        due("bad sample", longUsed().sample(0, 0, 0, 101), BAD);
        due("samples", longUsed().samples(), 2);
        due("constant", longUsed().constant(2), 5);
        due("bound", longUsed().bound(1, 1), 5);
        due("different", longUsed().different(3), 2);
        due("valueAt", longUsed().valueAt(1, 0), 3);
        due("modulus", longUsed().modulus(3), 3);
        due("remainder", longUsed().remainder(3), 1);
        due("relation", longUsed().relation(0, 1, 0), true);
        due("offset", longUsed().offset(0, 3), NONE);
        due("line", longUsed().line(1, 0), 2);
        due("slope", longUsed().slope(0, 1), 2);
        due("rise", longUsed().rise(0, 1), 1);
        due("equals", longUsed().equals(), 0);
        due("sums", longUsed().sums(0, 1, 3), true);
    }

    private static void fullFor512Calls() {
        InvariantFinder f = new InvariantFinder();
        for (int call = 1; call <= 512; call++) {
            due("call " + call, f.sample(1, 1, 1, 1), call <= 100 ? call : FULL);
        }
    }

    private static void valuesAtTheEdges() {
        for (int v : new int[] {-100, 100}) {
            for (int x = 0; x < 4; x++) {
                int[] s = new int[4];
                s[x] = v;
                InvariantFinder f = new InvariantFinder();
                due("sample with " + v + " for " + x, f.sample(s[0], s[1], s[2], s[3]), 1);
                due("constant(" + x + ")", f.constant(x), v);
            }
            due("sample of four times " + v, none().sample(v, v, v, v), 1);
        }
    }

    private static void variablesAtTheEdges() {
        InvariantFinder f = samples(1, 0, 0, 7, 3, 0, 0, 11);
        due("bound(0, 0)", f.bound(0, 0), 1);
        due("bound(3, 1)", f.bound(3, 1), 11);
        due("different(0)", f.different(0), 2);
        due("different(3)", f.different(3), 2);
        due("valueAt(0, 1)", f.valueAt(0, 1), 3);
        due("valueAt(3, 1)", f.valueAt(3, 1), 11);
        due("modulus(0)", f.modulus(0), 2);
        due("modulus(3)", f.modulus(3), 4);
        due("remainder(0)", f.remainder(0), 1);
        due("remainder(3)", f.remainder(3), 3);
        due("relation(0, 3, 0)", f.relation(0, 3, 0), true);
        due("relation(3, 0, 0)", f.relation(3, 0, 0), false);
        due("line(0, 3)", f.line(0, 3), 1);
        due("line(3, 0)", f.line(3, 0), 2);
        due("slope(0, 3)", f.slope(0, 3), 2);
        due("rise(3, 0)", f.rise(3, 0), -5);
        due("sums(0, 0, 3)", f.sums(0, 0, 3), false);
        InvariantFinder one = samples(4, 1, 2, 8);
        due("constant(0)", one.constant(0), 4);
        due("constant(3)", one.constant(3), 8);
        due("offset(0, 3)", one.offset(0, 3), 4);
        due("offset(3, 0)", one.offset(3, 0), -4);
        due("sums(0, 0, 3) of one", one.sums(0, 0, 3), true);
        due("sums(3, 3, 0) of one", one.sums(3, 3, 0), false);
    }

    private static InvariantFinder fullButForOne() {
        InvariantFinder f = new InvariantFinder();
        for (int i = 0; i < 99; i++) {
            int v = i % 2 * 4;
            f.sample(v, v + 2, 2 * v, 5);
        }
        return f;
    }

    private static void dueOfTheNinetyNine(InvariantFinder f) {
        due("constant(3)", f.constant(3), 5);
        due("bound(0, 1)", f.bound(0, 1), 4);
        due("bound(2, 0)", f.bound(2, 0), 0);
        due("different(0)", f.different(0), 2);
        due("valueAt(1, 1)", f.valueAt(1, 1), 6);
        due("modulus(2)", f.modulus(2), 8);
        due("remainder(1)", f.remainder(1), 2);
        due("relation(0, 1, 0)", f.relation(0, 1, 0), true);
        due("offset(0, 1)", f.offset(0, 1), 2);
        due("line(2, 0)", f.line(2, 0), 2);
        due("slope(0, 2)", f.slope(0, 2), 2);
        due("rise(1, 0)", f.rise(1, 0), -2);
        due("sums(0, 0, 2)", f.sums(0, 0, 2), true);
    }

    private static void theHundredthIsTaken() {
        InvariantFinder f = fullButForOne();
        dueOfTheNinetyNine(f);
        due("the hundredth", f.sample(9, 9, -9, 6), 100);
        due("constant(3)", f.constant(3), NONE);
        due("bound(0, 1)", f.bound(0, 1), 9);
        due("bound(2, 0)", f.bound(2, 0), -9);
        due("different(0)", f.different(0), 3);
        due("valueAt(1, 2)", f.valueAt(1, 2), 9);
        due("modulus(2)", f.modulus(2), 1);
        due("remainder(1)", f.remainder(1), NONE);
        due("relation(0, 1, 0)", f.relation(0, 1, 0), false);
        due("relation(0, 1, 1)", f.relation(0, 1, 1), true);
        due("offset(0, 1)", f.offset(0, 1), NONE);
        due("line(2, 0)", f.line(2, 0), 0);
        due("slope(0, 2)", f.slope(0, 2), 0);
        due("rise(1, 0)", f.rise(1, 0), 0);
        due("sums(0, 0, 2)", f.sums(0, 0, 2), false);
    }

    private static void theHundredthBreaksEquals() {
        InvariantFinder f = repeated(99, 6, 6, 6, 6);
        due("equals() of 99", f.equals(), ALL_PAIRS);
        f.sample(6, 6, 6, 7);
        due("equals() of 100", f.equals(), 1 << 1 | 1 << 2 | 1 << 6);
    }

    private static void theHundredthBreaksLine() {
        InvariantFinder f = fullButForOne();
        due("line(0, 2) of 99", f.line(0, 2), 1);
        // Between the least and the greatest, so that it alone is off the line.
        f.sample(2, 3, 5, 5);
        due("line(0, 2) of 100", f.line(0, 2), 0);
        due("slope(0, 2) of 100", f.slope(0, 2), 0);
        due("rise(0, 1) of 100", f.rise(0, 1), 0);
    }

    private static void theHundredAndFirstIsNotTaken() {
        InvariantFinder f = fullButForOne();
        f.sample(4, 6, 8, 5);
        f.sample(9, 9, -9, 6);
        dueOfTheNinetyNine(f);
        due("samples()", f.samples(), 100);
    }

    private static void noSampleEveryStatementHolds(InvariantFinder f) {
        due("equals()", f.equals(), ALL_PAIRS);
        for (int x = 0; x < 4; x++) {
            for (int y = 0; y < 4; y++) {
                for (int z = 0; z < 4; z++) {
                    due("sums(" + x + ", " + y + ", " + z + ")", f.sums(x, y, z), true);
                    if (x != y) {
                        due("relation(" + x + ", " + y + ", " + z + ")", f.relation(x, y, z), true);
                    }
                }
            }
        }
    }

    private static void statementOfOneSampleMayFail() {
        InvariantFinder f = samples(1, 2, 2, 2);
        due("relation(1, 0, 0)", f.relation(1, 0, 0), false);
        due("equals()", f.equals(), 1 << 6 | 1 << 7 | 1 << 11);
        due("sums(1, 1, 2)", f.sums(1, 1, 2), false);
    }

    private static void terms() {
        test("What it is: at most 512 calls: the 512th", BoundaryTest::the512thCall);
        test("What it is: at most 512 calls, full", BoundaryTest::fullFor512Calls);
        test("Terms: values (-100 .. 100)", BoundaryTest::valuesAtTheEdges);
        test("Terms: the four variables 0 .. 3", BoundaryTest::variablesAtTheEdges);
        test("Terms: At most 100 samples are taken: the 100th", BoundaryTest::theHundredthIsTaken);
        test("Terms: At most 100 samples are taken: the 100th, equals", BoundaryTest::theHundredthBreaksEquals);
        test("Terms: At most 100 samples are taken: the 100th, line", BoundaryTest::theHundredthBreaksLine);
        test("Terms: At most 100 samples are taken: the 101st", BoundaryTest::theHundredAndFirstIsNotTaken);
        test("Terms: with no sample every statement holds: new", () -> noSampleEveryStatementHolds(none()));
        test("Terms: with no sample every statement holds: cleared", () -> noSampleEveryStatementHolds(cleared()));
        test("Terms: with no sample every statement holds: one sample", BoundaryTest::statementOfOneSampleMayFail);
    }

    // Promises 1 to 4

    private static void newHasNoSamples() {
        dueNothingTaken("new", none());
        InvariantFinder other = samples(1, 2, 3, 4);
        dueNothingTaken("new beside another", none());
        due("the other's samples()", other.samples(), 1);
    }

    private static void numberOfSamplesNow() {
        InvariantFinder f = new InvariantFinder();
        for (int i = 1; i <= 100; i++) {
            due("sample " + i, f.sample(0, 0, 0, 0), i);
        }
    }

    private static void dueBadInEachPlace(int[] values) {
        for (int v : values) {
            due("sample(" + v + ", 0, 0, 0)", none().sample(v, 0, 0, 0), BAD);
            due("sample(0, " + v + ", 0, 0)", none().sample(0, v, 0, 0), BAD);
            due("sample(0, 0, " + v + ", 0)", none().sample(0, 0, v, 0), BAD);
            due("sample(0, 0, 0, " + v + ")", none().sample(0, 0, 0, v), BAD);
            due("sample of four times " + v, none().sample(v, v, v, v), BAD);
            due("sample of " + v + " and the edges", none().sample(100, -100, 100, v), BAD);
        }
    }

    private static void sendBad(InvariantFinder f) {
        for (int v : new int[] {-101, 101}) {
            f.sample(v, 50, 50, 50);
            f.sample(50, v, 50, 50);
            f.sample(50, 50, v, 50);
            f.sample(50, 50, 50, v);
        }
    }

    private static void badTakesNothing() {
        InvariantFinder f = new InvariantFinder();
        sendBad(f);
        dueSame("of none", f, none());
        due("the next sample", f.sample(1, 1, 1, 1), 1);
        InvariantFinder g = samples(1, 2, 3, 4, 3, 4, 5, 8);
        sendBad(g);
        dueSame("of two", g, samples(1, 2, 3, 4, 3, 4, 5, 8));
        due("the next sample of two", g.sample(1, 1, 1, 1), 3);
        InvariantFinder full = repeated(100, 1, 2, 3, 4);
        sendBad(full);
        dueSame("of a hundred", full, repeated(100, 1, 2, 3, 4));
    }

    private static void fullAtAHundred() {
        due("sample at 98", repeated(98, 1, 2, 3, 4).sample(0, 0, 0, 0), 99);
        due("sample at 99", repeated(99, 1, 2, 3, 4).sample(0, 0, 0, 0), 100);
        due("sample at 100", repeated(100, 1, 2, 3, 4).sample(0, 0, 0, 0), FULL);
        due("one that is already there", repeated(100, 1, 2, 3, 4).sample(1, 2, 3, 4), FULL);
        due("one at the edges", repeated(100, 1, 2, 3, 4).sample(-100, 100, -100, 100), FULL);
        due("a third time", repeated(102, 1, 2, 3, 4).sample(0, 0, 0, 0), FULL);
    }

    private static void fullTakesNothing() {
        InvariantFinder f = repeated(100, 1, 2, 3, 4);
        f.sample(50, 60, -70, -80);
        f.sample(0, 0, 0, 0);
        dueSame("after FULL", f, repeated(100, 1, 2, 3, 4));
        due("samples()", f.samples(), 100);
    }

    private static void clearOfFull() {
        InvariantFinder f = new InvariantFinder();
        for (int i = 0; i < 101; i++) {
            f.sample(i - 50, -i / 2, i % 7, 100 - i);
        }
        f.clear();
        dueNothingTaken("full and cleared", f);
        for (int i = 1; i <= 100; i++) {
            due("sample " + i + " after it", f.sample(3, 2, 1, 0), i);
        }
        due("sample 101 after it", f.sample(3, 2, 1, 0), FULL);
        dueSame("filled again", f, repeated(100, 3, 2, 1, 0));
    }

    private static void clearOfNone() {
        InvariantFinder f = new InvariantFinder();
        f.clear();
        dueSame("new and cleared", f, none());
        f.clear();
        f.clear();
        due("samples()", f.samples(), 0);
        due("sample after it", f.sample(1, 1, 1, 1), 1);
    }

    private static void clearLeavesNoTrace() {
        InvariantFinder f = samples(-100, 100, 7, 7, 100, -100, 8, 9, 0, 1, 2, 3, 50, 50, 50, 50);
        f.clear();
        dueSame("cleared", f, none());
        f.sample(1, 3, 5, 9);
        f.sample(2, 5, 5, 12);
        dueSame("cleared and used again", f, samples(1, 3, 5, 9, 2, 5, 5, 12));
    }

    private static void samplesAtTheEdges() {
        due("new", none().samples(), 0);
        due("cleared", cleared().samples(), 0);
        due("one", samples(0, 0, 0, 0).samples(), 1);
        due("ninety-nine", repeated(99, 0, 0, 0, 0).samples(), 99);
        due("a hundred", repeated(100, 0, 0, 0, 0).samples(), 100);
        due("a hundred and one were given", repeated(101, 0, 0, 0, 0).samples(), 100);
        due("all were refused", repeated(9, 0, 0, 0, 101).samples(), 0);
    }

    private static void promises1To4() {
        test("1: No samples", BoundaryTest::newHasNoSamples);
        test("2: answers the number of samples now", BoundaryTest::numberOfSamplesNow);
        test("2: BAD when one of them is not -100 .. 100: too small", () -> dueBadInEachPlace(TOO_SMALL));
        test("2: BAD when one of them is not -100 .. 100: too large", () -> dueBadInEachPlace(TOO_LARGE));
        test("2: a sample answered with BAD is not taken", BoundaryTest::badTakesNothing);
        test("2: FULL when there are 100", BoundaryTest::fullAtAHundred);
        test("2: a sample answered with FULL is not taken", BoundaryTest::fullTakesNothing);
        test("3: Forgets all samples: full", BoundaryTest::clearOfFull);
        test("3: Forgets all samples: none", BoundaryTest::clearOfNone);
        test("3: Forgets all samples: some", BoundaryTest::clearLeavesNoTrace);
        test("4: The number of samples", BoundaryTest::samplesAtTheEdges);
    }

    // Promises 5 and 6

    private static void constantAtTheEdges() {
        for (int x = 0; x < 4; x++) {
            for (int v : new int[] {-100, -2, -1, 0, 1, 100}) {
                due("constant of one " + v, column(x, v).constant(x), v);
                due("constant of three " + v, column(x, v, v, v).constant(x), v);
            }
        }
        due("constant of a hundred", repeated(100, 0, 0, 0, -100).constant(3), -100);
    }

    private static void constantOfMoreThanOne() {
        for (int x = 0; x < 4; x++) {
            due("two", column(x, 5, 6).constant(x), NONE);
            due("the edges", column(x, -100, 100).constant(x), NONE);
            due("v and -v", column(x, 1, -1).constant(x), NONE);
            due("the first is another", column(x, 6, 5, 5).constant(x), NONE);
            due("the middle is another", column(x, 5, 6, 5).constant(x), NONE);
            due("the last is another", column(x, 5, 5, 6).constant(x), NONE);
            due("three", column(x, 5, 6, 7).constant(x), NONE);
            due("four", column(x, 5, 6, 7, 8).constant(x), NONE);
            due("a hundred", column(x, upTo(100)).constant(x), NONE);
        }
    }

    private static void constantOfNoSample() {
        for (int x = 0; x < 4; x++) {
            due("new", none().constant(x), NONE);
            due("cleared", cleared().constant(x), NONE);
        }
    }

    private static void constantOfNoVariable() {
        for (int x : NOT_0_TO_3) {
            due("constant(" + x + ")", samples(5, 6, 7, 8).constant(x), NONE);
            due("constant(" + x + ") of two", samples(5, 6, 7, 8, 5, 6, 7, 8).constant(x), NONE);
            due("constant(" + x + ") of none", none().constant(x), NONE);
        }
    }

    private static void boundsAtTheEdges() {
        for (int x = 0; x < 4; x++) {
            due("least of one", column(x, 7).bound(x, 0), 7);
            due("greatest of one", column(x, 7).bound(x, 1), 7);
            due("least of all negative", column(x, -7, -9, -8).bound(x, 0), -9);
            due("greatest of all negative", column(x, -8, -7, -9).bound(x, 1), -7);
            due("least of all positive", column(x, 8, 7, 9).bound(x, 0), 7);
            due("greatest of all positive", column(x, 8, 9, 7).bound(x, 1), 9);
            due("the edge below", column(x, 100, 0, -100).bound(x, 0), -100);
            due("the edge above", column(x, -100, 0, 100).bound(x, 1), 100);
            due("the first is least", column(x, -100, 100).bound(x, 0), -100);
            due("the first is greatest", column(x, 100, -100).bound(x, 1), 100);
            due("the hundredth", column(x, upTo(100)).bound(x, 1), 100);
        }
    }

    private static void boundOfNoSample() {
        for (int x = 0; x < 4; x++) {
            for (int what = 0; what < 2; what++) {
                due("new", none().bound(x, what), NONE);
                due("cleared", cleared().bound(x, what), NONE);
            }
        }
    }

    private static void boundOfNoVariable() {
        for (int x : NOT_0_TO_3) {
            for (int what = 0; what < 2; what++) {
                String call = "bound(" + x + ", " + what + ")";
                due(call, samples(5, 6, 7, 8, 1, 2, 3, 4).bound(x, what), NONE);
                due(call + " of none", none().bound(x, what), NONE);
            }
        }
    }

    private static void boundOfNoSuchWhat() {
        for (int x = 0; x < 4; x++) {
            for (int what : NOT_0_TO_3) {
                due("bound(" + x + ", " + what + ")", samples(5, 6, 7, 8).bound(x, what), NONE);
            }
            due("bound(" + x + ", 2)", samples(5, 6, 7, 8).bound(x, 2), NONE);
            due("bound(" + x + ", 3)", samples(5, 6, 7, 8).bound(x, 3), NONE);
            due("bound(" + x + ", 2) of none", none().bound(x, 2), NONE);
        }
    }

    private static void promises5And6() {
        test("5: The value that x has in all samples", BoundaryTest::constantAtTheEdges);
        test("5: NONE when it has more than one", BoundaryTest::constantOfMoreThanOne);
        test("5: NONE when there is no sample", BoundaryTest::constantOfNoSample);
        test("5: NONE when x is not 0 .. 3", BoundaryTest::constantOfNoVariable);
        test("6: The least or greatest value of x in a sample", BoundaryTest::boundsAtTheEdges);
        test("6: NONE when there is no sample", BoundaryTest::boundOfNoSample);
        test("6: NONE when x is no such number", BoundaryTest::boundOfNoVariable);
        test("6: NONE when what is no such number", BoundaryTest::boundOfNoSuchWhat);
    }

    // Promises 7 and 8

    private static void differentAtTheEdges() {
        for (int x = 0; x < 4; x++) {
            due("new", none().different(x), 0);
            due("cleared", cleared().different(x), 0);
            due("one", column(x, 0).different(x), 1);
            due("one of a hundred", repeated(100, 9, 9, 9, 9).different(x), 1);
            due("the edges", column(x, -100, 100, -100, 100).different(x), 2);
            due("v and -v", column(x, 1, -1, 1).different(x), 2);
            due("neighbours at the edge", column(x, -100, -99, -100).different(x), 2);
        }
    }

    private static void differentMoreThanThree() {
        for (int x = 0; x < 4; x++) {
            due("three", column(x, 1, 2, 3).different(x), 3);
            due("three, many times", column(x, 3, 1, 2, 2, 3, 1, 1, 3).different(x), 3);
            due("four", column(x, 4, 3, 2, 1).different(x), 4);
            due("five", column(x, 1, 2, 3, 4, 5).different(x), 4);
            due("a hundred", column(x, upTo(100)).different(x), 4);
        }
    }

    private static void differentOfNoVariable() {
        for (int x : NOT_0_TO_3) {
            due("different(" + x + ")", samples(5, 6, 7, 8).different(x), BAD);
            due("different(" + x + ") of none", none().different(x), BAD);
        }
    }

    private static void dueListed(InvariantFinder f, int x, int... values) {
        for (int k = 0; k < values.length; k++) {
            due("valueAt(" + x + ", " + k + ") of " + Arrays.toString(values), f.valueAt(x, k), values[k]);
        }
    }

    private static void valuesFromTheLeast() {
        for (int x = 0; x < 4; x++) {
            dueListed(column(x, 4), x, 4);
            dueListed(column(x, -100), x, -100);
            dueListed(column(x, 100, -100), x, -100, 100);
            dueListed(column(x, -100, 100), x, -100, 100);
            dueListed(column(x, 1, 2, 3), x, 1, 2, 3);
            dueListed(column(x, 1, 3, 2), x, 1, 2, 3);
            dueListed(column(x, 2, 1, 3), x, 1, 2, 3);
            dueListed(column(x, 2, 3, 1), x, 1, 2, 3);
            dueListed(column(x, 3, 1, 2), x, 1, 2, 3);
            dueListed(column(x, 3, 2, 1), x, 1, 2, 3);
            dueListed(column(x, 0, -1, 0, -2, -1), x, -2, -1, 0);
        }
    }

    private static void atMostThreeOfThem() {
        for (int x = 0; x < 4; x++) {
            InvariantFinder f = column(x, 1, 2, 3, 3, 2);
            due("the third of three", f.valueAt(x, 2), 3);
            int[] fourth = {0, 0, 0, 0};
            fourth[x] = 4;
            f.sample(fourth[0], fourth[1], fourth[2], fourth[3]);
            for (int k = 0; k < 5; k++) {
                due("valueAt(" + x + ", " + k + ") of four", f.valueAt(x, k), NONE);
                due("valueAt(" + x + ", " + k + ") of a hundred", column(x, upTo(100)).valueAt(x, k), NONE);
            }
        }
    }

    private static void kNotBelowTheirNumber() {
        for (int x = 0; x < 4; x++) {
            for (int number = 1; number <= 3; number++) {
                InvariantFinder f = column(x, upTo(number));
                due("the last of " + number, f.valueAt(x, number - 1), number);
                due("k is " + number, f.valueAt(x, number), NONE);
                due("k is one more than " + number, f.valueAt(x, number + 1), NONE);
                due("k is 256", f.valueAt(x, 256), NONE);
                due("k is the greatest int", f.valueAt(x, Integer.MAX_VALUE), NONE);
            }
        }
    }

    private static void kBelowZero() {
        for (int x = 0; x < 4; x++) {
            InvariantFinder f = column(x, 1, 2, 3);
            for (int k : new int[] {-1, -2, -3, -256, Integer.MIN_VALUE}) {
                due("valueAt(" + x + ", " + k + ")", f.valueAt(x, k), NONE);
                due("valueAt(" + x + ", " + k + ") of none", none().valueAt(x, k), NONE);
            }
        }
    }

    private static void valueAtOfNoSample() {
        for (int x = 0; x < 4; x++) {
            for (int k = 0; k < 4; k++) {
                due("new", none().valueAt(x, k), NONE);
                due("cleared", cleared().valueAt(x, k), NONE);
            }
        }
    }

    private static void valueAtOfNoVariable() {
        for (int x : NOT_0_TO_3) {
            for (int k = -2; k < 3; k++) {
                due("valueAt(" + x + ", " + k + ")", samples(1, 2, 3, 4, 5, 6, 7, 8).valueAt(x, k), NONE);
            }
        }
    }

    private static void promises7And8() {
        test("7: The number of different values of x", BoundaryTest::differentAtTheEdges);
        test("7: but 4 when there are more than 3", BoundaryTest::differentMoreThanThree);
        test("7: BAD when x is not 0 .. 3", BoundaryTest::differentOfNoVariable);
        test("8: The k-th (0 the least)", BoundaryTest::valuesFromTheLeast);
        test("8: when there are at most 3 of them", BoundaryTest::atMostThreeOfThem);
        test("8: and k is below their number", BoundaryTest::kNotBelowTheirNumber);
        test("8: NONE otherwise: k below 0", BoundaryTest::kBelowZero);
        test("8: NONE otherwise: no sample", BoundaryTest::valueAtOfNoSample);
        test("8: NONE otherwise: x is not 0 .. 3", BoundaryTest::valueAtOfNoVariable);
    }

    // Promises 9 and 10

    private static void dueModulus(int m, int... values) {
        for (int x = 0; x < 4; x++) {
            due("modulus(" + x + ") of " + Arrays.toString(values), column(x, values).modulus(x), m);
        }
    }

    private static void dueRemainder(int rest, int... values) {
        for (int x = 0; x < 4; x++) {
            due("remainder(" + x + ") of " + Arrays.toString(values), column(x, values).remainder(x), rest);
        }
    }

    private static void theGreatestModulus() {
        dueModulus(12, 0, 12, 24, 36);
        dueModulus(12, 36, 0, 24);
        dueModulus(6, 0, 12, 18);
        dueModulus(6, 18, 0, 12, -12);
        dueModulus(100, -100, 0, 100);
        dueModulus(199, -100, 99);
        dueModulus(198, 99, -99);
    }

    private static void modulusUpTo200() {
        dueModulus(200, -100, 100);
        dueModulus(200, 100, -100, 100, -100);
        dueModulus(199, -99, 100);
        dueModulus(100, 100, -100, 0);
    }

    private static void modulusFrom2() {
        dueModulus(2, 0, 2);
        dueModulus(2, -1, 1);
        dueModulus(2, 99, 97, 1);
        dueModulus(2, -100, -98, 6, 100);
        dueModulus(3, 0, 3);
    }

    private static void noModulus() {
        dueModulus(1, 0, 1);
        dueModulus(1, -100, -99);
        dueModulus(1, 99, 100);
        dueModulus(1, 0, 6, 10, 15);
        dueModulus(1, 0, 2, 4, 6, 7);
        dueModulus(1, -1, 0, 2);
    }

    private static void remaindersAreNotNegative() {
        // The first of each pair is the remainder less m: Java's own rest of it would be another number.
        for (int m = 2; m <= 100; m++) {
            dueModulus(m, 1 - m, 1);
            dueModulus(m, -1, m - 1);
        }
        dueModulus(7, -4, 3, 10);
        dueModulus(7, -10, -3, 4);
    }

    private static void modulusOfFewerThanTwo() {
        for (int x = 0; x < 4; x++) {
            due("new", none().modulus(x), 0);
            due("cleared", cleared().modulus(x), 0);
        }
        dueModulus(0, 0);
        dueModulus(0, 5, 5, 5);
        dueModulus(0, -100, -100);
        dueModulus(2, 5, 5, 7);
    }

    private static void modulusOfNoVariable() {
        for (int x : NOT_0_TO_3) {
            due("modulus(" + x + ")", samples(1, 2, 3, 4, 5, 6, 7, 8).modulus(x), BAD);
            due("modulus(" + x + ") of one", samples(1, 2, 3, 4).modulus(x), BAD);
            due("modulus(" + x + ") of none", none().modulus(x), BAD);
        }
    }

    private static void modulusAndRemainderOfEachTwo() {
        for (int v = -100; v <= 100; v++) {
            for (int w = -100; w <= 100; w++) {
                int m = Math.abs(v - w);
                InvariantFinder f = samples(0, 0, 0, v, 0, 0, 0, w);
                due("modulus of " + v + ", " + w, f.modulus(3), m);
                due("remainder of " + v + ", " + w, f.remainder(3), m < 2 ? NONE : Math.floorMod(v, m));
            }
        }
    }

    private static void remainderFromZeroToLast() {
        for (int m = 2; m <= 100; m++) {
            dueRemainder(0, 0, m);
            dueRemainder(0, -m, 0);
            dueRemainder(m - 1, -1, m - 1);
            dueRemainder(m - 1, m - 1, -1);
            dueRemainder(1, 1 - m, 1);
        }
        dueRemainder(100, -100, 100);
        dueRemainder(100, 100, -100);
        dueRemainder(5, -1, 11, 17);
        dueRemainder(4, -3, -10, -17);
    }

    private static void remainderWhenModulusIsTwo() {
        dueRemainder(0, 0, 2);
        dueRemainder(1, -1, 1);
        dueRemainder(1, -99, 99, 97);
    }

    private static void remainderWhenModulusIsOne() {
        dueRemainder(NONE, 0, 1);
        dueRemainder(NONE, 6, 10, 15);
        dueRemainder(NONE, -100, -99);
    }

    private static void remainderWhenModulusIsZero() {
        for (int x = 0; x < 4; x++) {
            due("new", none().remainder(x), NONE);
            due("cleared", cleared().remainder(x), NONE);
        }
        dueRemainder(NONE, 5);
        dueRemainder(NONE, -7, -7);
    }

    private static void remainderOfNoVariable() {
        for (int x : NOT_0_TO_3) {
            due("remainder(" + x + ")", samples(1, 2, 3, 4, 5, 6, 7, 8).remainder(x), NONE);
            due("remainder(" + x + ") of none", none().remainder(x), NONE);
        }
    }

    private static void promises9And10() {
        test("9: The greatest m", BoundaryTest::theGreatestModulus);
        test("9: from 2 to 200: 200", BoundaryTest::modulusUpTo200);
        test("9: from 2 to 200: 2", BoundaryTest::modulusFrom2);
        test("9: 1 when there is none", BoundaryTest::noModulus);
        test("9: the same remainder modulo m (0 .. m - 1)", BoundaryTest::remaindersAreNotNegative);
        test("9: 0 when x has fewer than two different values", BoundaryTest::modulusOfFewerThanTwo);
        test("9: BAD when x is not 0 .. 3", BoundaryTest::modulusOfNoVariable);
        test("9 and 10: of each two values", BoundaryTest::modulusAndRemainderOfEachTwo);
        test("10: That remainder (0 .. m - 1)", BoundaryTest::remainderFromZeroToLast);
        test("10: when this is 2 or more: 2", BoundaryTest::remainderWhenModulusIsTwo);
        test("10: NONE otherwise: modulus 1", BoundaryTest::remainderWhenModulusIsOne);
        test("10: NONE otherwise: modulus 0", BoundaryTest::remainderWhenModulusIsZero);
        test("10: NONE otherwise: x is not 0 .. 3", BoundaryTest::remainderOfNoVariable);
    }

    // Promises 11 and 12

    /** One relation of each two variables, over the pairs of values. */
    private static void dueRelation(int rel, boolean want, int... values) {
        for (int x = 0; x < 4; x++) {
            for (int y = 0; y < 4; y++) {
                if (x != y) {
                    String call = "relation(" + x + ", " + y + ", " + rel + ") of " + Arrays.toString(values);
                    due(call, points(x, y, values).relation(x, y, rel), want);
                }
            }
        }
    }

    private static void lessThan() {
        dueRelation(0, true, 4, 5);
        dueRelation(0, false, 5, 5);
        dueRelation(0, false, 6, 5);
        dueRelation(0, true, -100, 100);
        dueRelation(0, false, 100, -100);
        dueRelation(0, false, 4, 5, 5, 5, 4, 5);
    }

    private static void atMost() {
        dueRelation(1, true, 4, 5);
        dueRelation(1, true, 5, 5);
        dueRelation(1, false, 6, 5);
        dueRelation(1, true, 100, 100);
        dueRelation(1, false, 100, -100);
        dueRelation(1, false, 5, 5, 6, 5, 5, 5);
    }

    private static void equal() {
        dueRelation(2, false, 4, 5);
        dueRelation(2, true, 5, 5);
        dueRelation(2, false, 6, 5);
        dueRelation(2, true, -100, -100, 100, 100);
        dueRelation(2, false, -100, 100);
        dueRelation(2, false, 5, 5, 5, 4, 5, 5);
    }

    private static void unequal() {
        dueRelation(3, true, 4, 5);
        dueRelation(3, false, 5, 5);
        dueRelation(3, true, 6, 5);
        dueRelation(3, true, 100, -100, -100, 100);
        dueRelation(3, false, 5, 4, 5, 5, 4, 5);
    }

    private static void dueFalse(int x, int y, int rel) {
        String call = "relation(" + x + ", " + y + ", " + rel + ")";
        due(call + " of none", none().relation(x, y, rel), false);
        due(call + " of rising", samples(1, 2, 3, 4).relation(x, y, rel), false);
        due(call + " of equal", samples(5, 5, 5, 5).relation(x, y, rel), false);
    }

    private static void relationWithNoVariable() {
        for (int other : NOT_0_TO_3) {
            for (int rel = 0; rel < 4; rel++) {
                for (int right = 0; right < 4; right++) {
                    dueFalse(other, right, rel);
                    dueFalse(right, other, rel);
                }
                dueFalse(other, other, rel);
            }
        }
    }

    private static void relationOfOneWithItself() {
        for (int x = 0; x < 4; x++) {
            for (int rel = 0; rel < 4; rel++) {
                dueFalse(x, x, rel);
            }
        }
    }

    private static void relationOfNoSuchRel() {
        for (int rel : NOT_0_TO_3) {
            dueFalse(0, 1, rel);
            dueFalse(3, 2, rel);
        }
    }

    private static void dueOffset(int c, int... values) {
        for (int x = 0; x < 4; x++) {
            for (int y = 0; y < 4; y++) {
                if (x != y) {
                    String call = "offset(" + x + ", " + y + ") of " + Arrays.toString(values);
                    due(call, points(x, y, values).offset(x, y), c);
                }
            }
        }
    }

    private static void offsetAtTheEdges() {
        dueOffset(0, 5, 5);
        dueOffset(0, -100, -100, 100, 100);
        dueOffset(1, -1, 0, 0, 1);
        dueOffset(-1, 0, -1, 1, 0);
        dueOffset(-2, 1, -1);
        dueOffset(200, -100, 100, -100, 100);
        dueOffset(-200, 100, -100);
    }

    private static void noOffset() {
        dueOffset(NONE, 1, 4, 1, 5);
        dueOffset(NONE, 1, 5, 1, 4, 1, 4);
        dueOffset(NONE, 1, 4, 1, 5, 1, 4);
        dueOffset(NONE, 1, 4, 1, 4, 1, 5);
        dueOffset(NONE, 1, 2, 2, 1);
        dueOffset(NONE, -100, 100, 100, -100);
    }

    private static void offsetOfNoSample() {
        for (int x = 0; x < 4; x++) {
            for (int y = 0; y < 4; y++) {
                due("new", none().offset(x, y), NONE);
                due("cleared", cleared().offset(x, y), NONE);
            }
        }
    }

    private static void offsetOfNoVariable() {
        for (int other : NOT_0_TO_3) {
            for (int right = 0; right < 4; right++) {
                due("offset(" + other + ", " + right + ")", samples(1, 2, 3, 4).offset(other, right), NONE);
                due("offset(" + right + ", " + other + ")", samples(1, 2, 3, 4).offset(right, other), NONE);
            }
            due("offset of both " + other, samples(1, 2, 3, 4).offset(other, other), NONE);
        }
    }

    private static void offsetOfOneWithItself() {
        for (int x = 0; x < 4; x++) {
            due("offset(" + x + ", " + x + ")", samples(1, 2, 3, 4).offset(x, x), NONE);
        }
    }

    private static void promises11And12() {
        test("11: \"x is less than y\" (rel 0)", BoundaryTest::lessThan);
        test("11: \"x is at most y\" (1)", BoundaryTest::atMost);
        test("11: \"x equals y\" (2)", BoundaryTest::equal);
        test("11: \"x is not y\" (3)", BoundaryTest::unequal);
        test("11: false when x or y is not 0 .. 3", BoundaryTest::relationWithNoVariable);
        test("11: false when x = y", BoundaryTest::relationOfOneWithItself);
        test("11: false when rel is not 0 .. 3", BoundaryTest::relationOfNoSuchRel);
        test("12: The number c for which \"y = x + c\" holds", BoundaryTest::offsetAtTheEdges);
        test("12: NONE when there is none", BoundaryTest::noOffset);
        test("12: NONE when there is no sample", BoundaryTest::offsetOfNoSample);
        test("12: NONE when x or y is not 0 .. 3", BoundaryTest::offsetOfNoVariable);
        test("12: NONE when x = y", BoundaryTest::offsetOfOneWithItself);
    }

    // Promises 13 to 15. A row is p, q, r and then the points; each row is asked of each two variables.

    private static final int[][] FALLING_OR_BACKWARDS = {
        {1, -1, 0, -1, 1, 1, -1},
        {1, -1, 0, 1, -1, -1, 1},
        {1, -2, 5, 1, 3, 2, 1},
        {1, -2, 5, 2, 1, 1, 3},
        {3, -2, 6, 0, 2, 3, 0, -3, 4},
        {3, 2, 0, 3, 2, 0, 0, -3, -2},
        {2, 1, -1, 5, 2, 3, 1, 1, 0},
    };
    private static final int[][] WITH_A_DIVISOR = {
        {1, 1, 0, 0, 0, 2, 2},
        {1, 1, 0, -100, -100, 100, 100},
        {1, -1, 0, -100, 100, 100, -100},
        {3, 2, 0, 0, 0, 6, 4},
        {3, 2, -2, 1, 0, 7, 4},
        {2, 3, 1, -1, -1, 5, 8},
        {1, 2, 0, -50, -100, 50, 100},
        {2, 1, 0, -100, -50, 100, 50},
        {2, 1, 100, -100, 0, 100, 100},
        {1, 1, 7, 0, 7, 91, 98},
    };
    private static final int[][] FARTHEST = {
        {200, 199, -100, -100, -100, 100, 99},
        {200, -199, 100, -100, 100, 100, -99},
        {199, 200, 100, -100, -100, 99, 100},
        {200, 1, 19900, -100, 99, 100, 100},
        {200, 1, -19900, -100, -100, 100, -99},
        {200, -1, 19900, -100, 100, 100, 99},
        {1, 200, 19900, -100, -100, -99, 100},
        {1, 200, -19900, 99, -100, 100, 100},
        {1, -200, 19900, 99, 100, 100, -100},
        {1, -200, -19900, -100, 100, -99, -100},
    };
    private static final int[][] ONE_VALUE_OF_Y = {
        {0, 0, 0, 1, 5, 2, 5},
        {0, 0, 0, 1, 0, 2, 0, 3, 0},
        {0, 0, 0, -100, 100, 100, 100},
    };
    private static final int[][] ONE_VALUE_OF_X = {
        {0, 0, 0, 1, 2},
        {0, 0, 0, 0, 0},
        {0, 0, 0, 3, 3, 3, 3},
        {0, 0, 0, 1, 2, 1, 3},
        {0, 0, 0, 5, -100, 5, 0, 5, 100},
    };
    private static final int[][] OFF_THE_LINE = {
        {0, 0, 0, 1, 1, 2, 2, 3, 4},
        {0, 0, 0, 1, 0, 2, 2, 3, 3},
        {0, 0, 0, 1, 1, 2, 3, 3, 3},
        {0, 0, 0, 0, 0, 1, 1, 2, 0},
        {0, 0, 0, 1, 2, 3, 4, 3, 5},
        {0, 0, 0, 1, 2, 1, 3, 3, 4},
        {0, 0, 0, -100, -100, 0, 1, 100, 100},
        {0, 0, 0, -100, 100, 100, 100, 100, -100},
    };
    private static final int[][] TWO_VALUES_AMONG_MANY = {
        {1, 1, 3, 4, 7, 4, 7, 5, 8},
        {1, 1, -3, 5, 2, 4, 1, 4, 1},
        {2, 3, 2, 4, 7, 6, 10, 4, 7},
    };

    private static final String[] PART = {"line", "slope", "rise"};

    private static int partOfLine(int part, InvariantFinder f, int x, int y) {
        return part == 0 ? f.line(x, y) : part == 1 ? f.slope(x, y) : f.rise(x, y);
    }

    private static void dueLines(int part, int[][] rows) {
        for (int[] row : rows) {
            int[] values = Arrays.copyOfRange(row, 3, row.length);
            for (int x = 0; x < 4; x++) {
                for (int y = 0; y < 4; y++) {
                    if (x != y) {
                        String call = PART[part] + "(" + x + ", " + y + ") of " + Arrays.toString(values);
                        due(call, partOfLine(part, points(x, y, values), x, y), row[part]);
                    }
                }
            }
        }
    }

    private static void lineOfNoSample(int part) {
        for (int x = 0; x < 4; x++) {
            for (int y = 0; y < 4; y++) {
                due("new", partOfLine(part, none(), x, y), 0);
                due("cleared", partOfLine(part, cleared(), x, y), 0);
            }
        }
    }

    private static InvariantFinder fourLines() {
        return samples(1, 3, 9, -2, 2, 5, 8, -5);
    }

    private static void lineOfNoVariable(int part) {
        for (int other : NOT_0_TO_3) {
            for (int right = 0; right < 4; right++) {
                String with = " of " + other + " and " + right;
                due(PART[part] + with, partOfLine(part, fourLines(), other, right), 0);
                due(PART[part] + with + ", turned", partOfLine(part, fourLines(), right, other), 0);
            }
            due(PART[part] + " of both " + other, partOfLine(part, fourLines(), other, other), 0);
            due(PART[part] + " of none", partOfLine(part, none(), 0, other), 0);
        }
    }

    private static void lineOfOneWithItself(int part) {
        for (int x = 0; x < 4; x++) {
            due(PART[part] + "(" + x + ", " + x + ")", partOfLine(part, fourLines(), x, x), 0);
        }
    }

    private static void promises13To15() {
        for (int i = 0; i < 3; i++) {
            int part = i;
            String promise = 13 + part + ": ";
            test(promise + "p above 0", () -> dueLines(part, FALLING_OR_BACKWARDS));
            test(promise + "q not 0", () -> dueLines(part, ONE_VALUE_OF_Y));
            test(promise + "no number above 1 dividing all three", () -> dueLines(part, WITH_A_DIVISOR));
            test(promise + "the points farthest apart", () -> dueLines(part, FARTHEST));
            test(promise + "x has at least two different values: two", () -> dueLines(part, TWO_VALUES_AMONG_MANY));
            test(promise + "x has at least two different values: one", () -> dueLines(part, ONE_VALUE_OF_X));
            test(promise + "else 0: no such p, q, r", () -> dueLines(part, OFF_THE_LINE));
            test(promise + "else 0: no sample", () -> lineOfNoSample(part));
            test(promise + "0 when x or y is not 0 .. 3", () -> lineOfNoVariable(part));
            test(promise + "0 when x = y", () -> lineOfOneWithItself(part));
        }
    }

    // Promises 16 to 18

    private static void eachPairHasItsBit() {
        for (int x = 0; x < 4; x++) {
            for (int y = x + 1; y < 4; y++) {
                int[] s = {-100, -50, 50, 100};
                s[y] = s[x];
                due("equals() of " + Arrays.toString(s), samples(s).equals(), 1 << (4 * x + y));
            }
        }
    }

    private static void allPairsAndNone() {
        due("new", none().equals(), ALL_PAIRS);
        due("cleared", cleared().equals(), ALL_PAIRS);
        due("all equal", samples(9, 9, 9, 9, -100, -100, -100, -100).equals(), ALL_PAIRS);
        due("none equal", samples(1, 2, 3, 4).equals(), 0);
        due("v and -v", samples(1, -1, 2, -2).equals(), 0);
        due("neighbours", samples(99, 100, -99, -100).equals(), 0);
        due("three equal", samples(5, 6, 5, 5).equals(), 1 << 2 | 1 << 3 | 1 << 11);
    }

    private static void equalInEverySample() {
        due("the first breaks a pair", samples(1, 2, 3, 3, 1, 1, 3, 3, 1, 1, 3, 3).equals(), 1 << 11);
        due("the middle breaks a pair", samples(1, 1, 3, 3, 1, 2, 3, 3, 1, 1, 3, 3).equals(), 1 << 11);
        due("the last breaks a pair", samples(1, 1, 3, 3, 1, 1, 3, 3, 1, 2, 3, 3).equals(), 1 << 11);
        due("each breaks another", samples(1, 1, 2, 2, 1, 2, 1, 2).equals(), 0);
    }

    private static void sumsOfAnyVariables() {
        int[][] given = {{0, 0, 0, 0}, {1, 2, 3, 4}, {5, 5, 10, 0}, {-2, 4, 2, -4}, {50, 50, 100, -50}, {-50, -100, 0, 50}};
        for (int[] s : given) {
            for (int x = 0; x < 4; x++) {
                for (int y = 0; y < 4; y++) {
                    for (int z = 0; z < 4; z++) {
                        String call = "sums(" + x + ", " + y + ", " + z + ") of " + Arrays.toString(s);
                        due(call, samples(s).sums(x, y, z), s[x] + s[y] == s[z]);
                    }
                }
            }
        }
    }

    private static void sumsBeyondTheValues() {
        due("100 + 100", samples(100, 100, 100, 0).sums(0, 1, 2), false);
        due("100 + 100 in a byte", samples(100, 100, -56, 0).sums(0, 1, 2), false);
        due("-100 + -100 in a byte", samples(-100, -100, 56, 0).sums(0, 1, 2), false);
        due("100 + -100", samples(100, -100, 0, 0).sums(0, 1, 2), true);
        due("0 + 100", samples(0, 100, 100, 0).sums(0, 1, 2), true);
        due("one too small", samples(60, 40, 99, 0).sums(0, 1, 2), false);
        due("one too large", samples(60, 39, 100, 0).sums(0, 1, 2), false);
    }

    private static void sumsInEverySample() {
        due("the first breaks it", samples(1, 2, 4, 0, 1, 2, 3, 0, 1, 2, 3, 0).sums(0, 1, 2), false);
        due("the middle breaks it", samples(1, 2, 3, 0, 1, 2, 4, 0, 1, 2, 3, 0).sums(0, 1, 2), false);
        due("the last breaks it", samples(1, 2, 3, 0, 1, 2, 3, 0, 1, 2, 4, 0).sums(0, 1, 2), false);
        due("none breaks it", samples(1, 2, 3, 0, -4, 2, -2, 0, 0, 0, 0, 9).sums(0, 1, 2), true);
    }

    private static void sumsOfNoVariable() {
        for (int other : NOT_0_TO_3) {
            for (InvariantFinder f : new InvariantFinder[] {none(), samples(0, 0, 0, 0)}) {
                due("sums(" + other + ", 0, 0)", f.sums(other, 0, 0), false);
                due("sums(0, " + other + ", 0)", f.sums(0, other, 0), false);
                due("sums(0, 0, " + other + ")", f.sums(0, 0, other), false);
                due("sums(" + other + ", 3, 3)", f.sums(other, 3, 3), false);
                due("sums(3, " + other + ", 3)", f.sums(3, other, 3), false);
                due("sums(3, 3, " + other + ")", f.sums(3, 3, other), false);
                due("sums of all " + other, f.sums(other, other, other), false);
            }
        }
    }

    private static void badBeforeFull() {
        InvariantFinder f = repeated(100, 1, 2, 3, 4);
        for (int v : new int[] {-101, 101, Integer.MIN_VALUE, Integer.MAX_VALUE}) {
            due("sample(" + v + ", 0, 0, 0)", f.sample(v, 0, 0, 0), BAD);
            due("sample(0, " + v + ", 0, 0)", f.sample(0, v, 0, 0), BAD);
            due("sample(0, 0, " + v + ", 0)", f.sample(0, 0, v, 0), BAD);
            due("sample(0, 0, 0, " + v + ")", f.sample(0, 0, 0, v), BAD);
            due("a right one between them", f.sample(0, 0, 0, 0), FULL);
        }
        due("samples()", f.samples(), 100);
    }

    private static void askingChangesNothing() {
        // Against objects that are asked one question each.
        int[] askedOnce = answers(() -> samples(1, 3, 5, 4, 2, 5, 5, 7));
        InvariantFinder f = samples(1, 3, 5, 4, 2, 5, 5, 7);
        due("the first unlike answer", Arrays.mismatch(answers(() -> f), askedOnce), -1);
        due("the first unlike answer, asked again", Arrays.mismatch(answers(() -> f), askedOnce), -1);
        int[] noneAskedOnce = answers(() -> none());
        InvariantFinder g = none();
        due("the first unlike answer of none", Arrays.mismatch(answers(() -> g), noneAskedOnce), -1);
        due("sample after asking", g.sample(1, 1, 1, 1), 1);
    }

    private static void constants() {
        due("NONE", InvariantFinder.NONE, NONE);
        due("FULL", InvariantFinder.FULL, FULL);
        due("BAD", InvariantFinder.BAD, BAD);
    }

    private static void promises16To18() {
        test("16: bit 4 * x + y", BoundaryTest::eachPairHasItsBit);
        test("16: The pairs (x, y), x < y: all and none", BoundaryTest::allPairsAndNone);
        test("16: for which \"x equals y\" holds", BoundaryTest::equalInEverySample);
        test("17: x, y, z any variables 0 .. 3, equal ones too", BoundaryTest::sumsOfAnyVariables);
        test("17: \"x + y = z\" beyond -100 .. 100", BoundaryTest::sumsBeyondTheValues);
        test("17: Whether \"x + y = z\" holds", BoundaryTest::sumsInEverySample);
        test("17: false when one of them is another number", BoundaryTest::sumsOfNoVariable);
        test("18: BAD is tested before FULL", BoundaryTest::badBeforeFull);
    }

    public static void main(String[] args) {
        test("The public face: the constants", BoundaryTest::constants);
        terms();
        promises1To4();
        promises5And6();
        promises7And8();
        promises9And10();
        promises11And12();
        promises13To15();
        promises16To18();
        test("Not promised: no state change beyond those described", BoundaryTest::askingChangesNothing);
        System.out.println(tests + " sentences, " + asked + " answers, " + wrong + " faults");
        if (wrong != 0) {
            System.exit(1);
        }
    }
}
