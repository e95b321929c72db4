/**
 * The sentences of the promises 1 to 22 that name a boundary, each on both sides of it. After a call
 * that is refused the object must answer as before.
 */
public final class PromisesEdgesTest extends Checks {
    private interface Numbered {
        long of(CurveFalls x, int curve);
    }

    public static void main(String[] args) {
        promise1NoCurves();
        promise2Coefficients();
        promise3Change();
        promise4Scale();
        promise5Least();
        promise6Twist();
        promise7Drop();
        promise8Of();
        promise9At();
        promise9IndexAndSplit();
        promise10Prime();
        promise11Conductor();
        promise12LeastOf();
        promise13One();
        promise14Points();
        promise15Trace();
        promise16Own();
        promise17Best();
        promise17EqualOnes();
        promise18Twisted();
        promise19Small();
        promise20Point();
        promise21Minus();
        promise22Count();
        finish();
    }

    /** Numbers 0, 1, 2; 3 and 4 have been there and are dropped. */
    private static CurveFalls three() {
        CurveFalls x = with(0, -1, 1, 0, 0);
        x.curve(0, 0, 1, -1, 0);
        x.curve(0, 0, 0, 0, 1);
        x.curve(0, 0, 0, -1, 0);
        x.curve(1, 0, 1, 4, -6);
        due("points of one that will be dropped", x.small(4) > 0, true);
        due("drop", x.drop(), 4);
        due("drop", x.drop(), 3);
        return x;
    }

    /** Of 0, 1, 2 there is an answer; of numbers on both sides of these, of dropped ones too, there is none. */
    private static void dueOfNumbers(String call, Numbered asked, long none) {
        for (int curve = 0; curve < 3; curve++) {
            CurveFalls x = three();
            int number = curve;
            due(call + " of number " + curve, answer(y -> asked.of(y, number), x) != none, true);
        }
        for (int curve : new int[] {LOW, LOW + 1, -2, -1, 3, 4, 5, 15, 16, 17, 65536, HIGH - 1, HIGH}) {
            dueRefused(call + " of number " + curve, PromisesEdgesTest::three, x -> asked.of(x, curve), none);
        }
        dueRefused(call + " where there is none", CurveFalls::new, x -> asked.of(x, 0), none);
        dueRefused(call + " where there is none", CurveFalls::new, x -> asked.of(x, -1), none);
        due(call + " of number 14", answer(x -> asked.of(x, 14), fifteen()) != none, true);
        dueRefused(call + " of number 15 of 15", PromisesEdgesTest::fifteen, x -> asked.of(x, 15), none);
        dueRefused(call + " of number 16", Checks::full, x -> asked.of(x, 16), none);
    }

    private static void promise1NoCurves() {
        for (int what = 0; what < 4; what++) {
            due("count " + what, new CurveFalls().count(what), 0);
        }
        due("the first has number 0", new CurveFalls().curve(0, 0, 1, -1, 0), 0);
        dueRefused("drop", CurveFalls::new, x -> x.drop(), -1);
        CurveFalls one = with(0, 0, 1, -1, 0);
        due("another object has none still", new CurveFalls().count(0), 0);
        due("and the first has one", one.count(0), 1);
    }

    private static int askCurve(CurveFalls x, int which, int value) {
        int[] a = {0, 0, 1, -1, 0};
        a[which] = value;
        return x.curve(a[0], a[1], a[2], a[3], a[4]);
    }

    private static void promise2Coefficients() {
        int[] most = {9, 9, 9, 99, 99};
        for (int i = 0; i < 5; i++) {
            int which = i;
            for (int value : new int[] {most[i], most[i] - 1, -most[i], 1 - most[i]}) {
                CurveFalls x = three();
                due("coefficient " + i + " " + value, askCurve(x, i, value), 3);
                due("coefficient " + i + " " + value, x.of(3, i), value);
            }
            for (int value : new int[] {most[i] + 1, -most[i] - 1, 100, -100, 65536, LOW, LOW + 1, HIGH}) {
                dueRefused("coefficient " + i + " " + value, PromisesEdgesTest::three, x -> askCurve(x, which, value), -1);
            }
        }
        due("all at once", three().curve(9, -9, 9, -99, 99), 3);
        due("all at once", three().curve(-9, 9, -9, 99, -99), 3);
        dueRefused("DISC 0", PromisesEdgesTest::three, x -> x.curve(0, 0, 0, 0, 0), -1);
        dueRefused("DISC 0, with all of them", PromisesEdgesTest::three, x -> x.curve(2, -1, 4, -7, -2), -1);
        due("one more", three().curve(2, -1, 4, -7, -1), 3);
        dueRefused("DISC 0 at an edge", PromisesEdgesTest::three, x -> x.curve(0, 9, 0, 0, 0), -1);
        due("one more", three().curve(0, 9, 0, 0, 1), 3);
        dueRefused("16 there are", Checks::full, x -> x.curve(0, 0, 1, -1, 0), -1);
        dueRefused("16 there are, and DISC 0", Checks::full, x -> x.curve(0, 0, 0, 0, 0), -1);
    }

    private static void promise3Change() {
        dueOfNumbers("change", (x, curve) -> x.change(curve, 1, 2, 3), -1);
        for (int sign = -1; sign <= 1; sign += 2) {
            int last = 99 * sign;
            due("s " + last, three().change(1, 0, last, 0), 3);
            due("t " + last, three().change(1, 0, 0, last), 3);
            for (int bad : new int[] {100 * sign, 101 * sign, 1000 * sign, sign < 0 ? LOW : HIGH}) {
                dueRefused("s " + bad, PromisesEdgesTest::three, x -> x.change(1, 0, bad, 0), -1);
                dueRefused("t " + bad, PromisesEdgesTest::three, x -> x.change(1, 0, 0, bad), -1);
                dueRefused("r " + bad, PromisesEdgesTest::three, x -> x.change(1, bad, 0, 0), -1);
            }
        }
        due("r 99", movedToR(1).change(1, 99, 0, 0), 2);
        dueRefused("r 100", () -> movedToR(1), x -> x.change(1, 100, 0, 0), -1);
        due("r -99", movedToR(-1).change(1, -99, 0, 0), 2);
        dueRefused("r -100", () -> movedToR(-1), x -> x.change(1, -100, 0, 0), -1);
        due("by nothing", three().change(2, 0, 0, 0), 3);
        due("a6 100000", with(0, 0, 0, 57, 42).change(0, 46, 0, 0), 1);
        dueRefused("a6 100001", () -> with(0, 0, 0, 57, 43), x -> x.change(0, 46, 0, 0), -1);
        dueRefused("16 there are", Checks::full, x -> x.change(0, 0, 0, 0), -1);
        due("the last of 15", fifteen().change(14, 1, 1, 1), 15);
    }

    /** A CURVE (number 1) of which r 99 and r 100 (r -99 and r -100) leave all coefficients small enough. */
    private static CurveFalls movedToR(int sign) {
        CurveFalls x = sign > 0 ? with(0, 0, 0, 0, 1) : with(9, 9, 9, 0, 0);
        due("change", sign > 0 ? x.change(0, 0, 10, 0) : x.change(0, 46, 0, 99), 1);
        return x;
    }

    private static CurveFalls fifteen() {
        CurveFalls x = full();
        due("drop", x.drop(), 15);
        return x;
    }

    /** Number 1 is GROWN by 2, 2 by 9, 3 by 2 and 5: of that all is whole by 10, too. */
    private static CurveFalls grown() {
        CurveFalls x = with(0, -1, 1, 0, 0);
        due("by 2", x.scale(0, 2, true), 1);
        due("by 9", x.scale(0, 9, true), 2);
        due("by 5", x.scale(1, 5, true), 3);
        return x;
    }

    private static void promise4Scale() {
        dueOfNumbers("scale", (x, curve) -> x.scale(curve, 2, true), -1);
        dueCoefficients("by 9", grown(), 2, 0, -81, 729, 0, 0);
        for (int u = 2; u <= 9; u++) {
            CurveFalls x = with(0, 0, 1, 0, 0);
            due("grown by " + u, x.scale(0, u, true), 1);
            due("shrunk by " + u, x.scale(1, u, false), 2);
            dueCoefficients("shrunk by " + u, x, 2, 0, 0, 1, 0, 0);
        }
        for (int u : new int[] {LOW, -10, -9, -2, -1, 0, 1, 10, 11, 65538, HIGH}) {
            dueRefused("grown by " + u, PromisesEdgesTest::grown, x -> x.scale(0, u, true), -1);
            for (int curve = 0; curve < 4; curve++) {
                int number = curve;
                dueRefused("shrunk by " + u, PromisesEdgesTest::grown, x -> x.scale(number, u, false), -1);
            }
        }
        due("shrunk by 9", grown().scale(2, 9, false), 4);
        due("shrunk by 3", grown().scale(2, 3, false), 4);
        due("shrunk by 5", grown().scale(3, 5, false), 4);
        dueRefused("16 there are", Checks::full, x -> x.scale(0, 2, true), -1);
        dueRefused("16 there are, not whole either", Checks::full, x -> x.scale(0, 2, false), -1);
        promise4NotWhole();
    }

    private static void promise4NotWhole() {
        int[] whole = {2, 4, 8, 16, 64};
        int[] half = {1, 2, 4, 8, 32};
        due("all whole", with(2, 4, 8, 16, 64).scale(0, 2, false), 1);
        for (int i = 0; i < 5; i++) {
            int[] a = whole.clone();
            a[i] = half[i];
            dueRefused("coefficient " + i + " is a half", () -> with(a[0], a[1], a[2], a[3], a[4]), x -> x.scale(0, 2, false), -1);
            a[i] = 0;
            due("coefficient " + i + " is 0", with(a[0], a[1], a[2], a[3], a[4]).scale(0, 2, false), 1);
            a[i] = -whole[i];
            due("coefficient " + i + " below 0", with(a[0], a[1], a[2], a[3], a[4]).scale(0, 2, false), 1);
        }
        for (int u = 2; u <= 9; u++) {
            int by = u;
            if (u != 2) {
                dueRefused("grown by 2, shrunk by " + u, PromisesEdgesTest::grown, x -> x.scale(1, by, false), -1);
            }
        }
    }

    private static void promise5Least() {
        dueOfNumbers("least", (x, curve) -> x.least(curve), -1);
        due("the 16th", fifteen().least(14), 15);
        dueRefused("16 there are", Checks::full, x -> x.least(0), -1);
        dueRefused("16 there are", Checks::full, x -> x.least(15), -1);
        CurveFalls x = grown();
        for (int curve = 0; curve < 4; curve++) {
            due("least", x.least(curve), 4 + curve);
            dueCoefficients("least", x, 4 + curve, 0, -1, 1, 0, 0);
        }
    }

    /** Number 1 has DISC -2000003072 and is LEAST for all: of it there is no TWIST. */
    private static CurveFalls withoutTwist() {
        CurveFalls x = with(1, -8, -8, 3, -29);
        due("twist", x.twist(0, -1), 1);
        due("DISC", x.leastOf(1, 11), -2000003072);
        return x;
    }

    private static void promise6Twist() {
        dueOfNumbers("twist", (x, curve) -> x.twist(curve, -3), -1);
        for (int d : new int[] {0, 1, 4, -4, 8, -8, 9, -9, 11, -11, LOW, HIGH}) {
            dueRefused("twist by " + d, PromisesEdgesTest::three, x -> x.twist(1, d), -1);
        }
        due("by 10", three().twist(1, 10), 3);
        due("by -10", three().twist(1, -10), 3);
        due("by 2", three().twist(1, 2), 3);
        due("by -1", three().twist(1, -1), 3);
        dueRefused("there is none", PromisesEdgesTest::withoutTwist, x -> x.twist(1, -1), -1);
        dueRefused("a6 100001", () -> with(0, -8, 1, -67, -71), x -> x.twist(0, -7), -1);
        dueRefused("a4 -100033", () -> with(1, -6, -9, -47, 92), x -> x.twist(0, 10), -1);
        dueRefused("DISC and a6 too great", () -> with(-9, 9, 9, -99, -99), x -> x.twist(0, 10), -1);
        due("the 16th", fifteen().twist(14, -3), 15);
        dueRefused("16 there are", Checks::full, x -> x.twist(0, -3), -1);
    }

    private static void promise7Drop() {
        CurveFalls x = full();
        for (int left = 15; left >= 0; left--) {
            due("drop", x.drop(), left);
            due("count", x.count(0), left);
        }
        due("there is none", x.drop(), -1);
        due("nor again", x.drop(), -1);
        due("count", x.count(0), 0);
        due("the first", x.curve(0, 0, 0, -1, 0), 0);
        due("is the new one", x.conductor(0), 32);
        due("drop", x.drop(), 0);
        dueRefused("there is none", CurveFalls::new, y -> y.drop(), -1);
    }

    private static void promise8Of() {
        dueOfNumbers("of", (x, curve) -> x.of(curve, 0), THROWN);
        dueOfNumbers("of", (x, curve) -> x.of(curve, 11), THROWN);
        due("of what 0", three().of(0, 0), 0);
        due("of what 11", three().of(0, 11), -11);
        due("of number 15", full().of(15, 11), 37);
        for (int what : new int[] {LOW, -12, -1, 12, 13, 65536, HIGH}) {
            dueRefused("of what " + what, PromisesEdgesTest::three, x -> x.of(0, what), THROWN);
        }
    }

    private static void promise9At() {
        dueOfNumbers("at", (x, curve) -> x.at(curve, 2, 0), -1);
        dueOfNumbers("at", (x, curve) -> x.at(curve, 999983, 7), -1);
        for (int what = 0; what < 8; what++) {
            due("what " + what, three().at(0, 11, what), what == 7 ? 0 : 1);
        }
        for (int what : new int[] {LOW, -1, 8, 9, 65536, HIGH}) {
            dueRefused("what " + what, PromisesEdgesTest::three, x -> x.at(0, 11, what), -1);
        }
        for (int p : new int[] {LOW, -11, -2, -1, 0, 1, 4, 9, 121, 998001, 999982, 999984, 999985, 1000003, 1000033, HIGH}) {
            dueRefused("p " + p, PromisesEdgesTest::three, x -> x.at(0, p, 3), -1);
        }
        due("p 2", three().at(2, 2, 0), 4);
        due("p 3", three().at(2, 3, 0), 3);
        due("p 999979", three().at(2, 999979, 0), 0);
        due("p 999983", three().at(2, 999983, 3), 1);
    }

    // a1, a2, a3, a4, a6, p, KIND, INDEX, SPLIT: one of each kind, NODES of both sorts.
    private static final int[][] KINDS = {
        {0, 0, 1, 0, 0, 2, 0, 0, 0}, {1, 0, 1, 0, -2, 2, 1, 4, 0}, {1, 0, 0, -4, 0, 2, 1, 4, 1}, {0, 0, 1, -1, 0, 37, 1, 1, 0},
        {0, -1, 1, -10, -20, 11, 1, 5, 1}, {0, 0, 0, 0, -1, 2, 2, 0, 0}, {0, 0, 0, -1, 0, 2, 3, 0, 0}, {0, 0, 0, 0, 1, 2, 4, 0, 0},
        {0, 0, 0, 0, -4, 2, 5, 0, 0}, {0, 0, 0, 4, 4, 2, 6, 1, 0}, {0, 1, 0, 0, -12, 2, 6, 4, 0}, {0, 9, 1, 42, -27, 3, 6, 5, 0},
        {0, 0, 0, 0, -12, 2, 7, 0, 0}, {0, 0, 0, -8, 0, 2, 8, 0, 0}, {0, 0, 0, 0, -16, 2, 9, 0, 0}};

    /** All on one object, upwards and downwards: what was told of one KIND must not stay for the next. */
    private static void promise9IndexAndSplit() {
        CurveFalls x = new CurveFalls();
        for (int i = 0; i < KINDS.length; i++) {
            int[] row = KINDS[i];
            due("curve", x.curve(row[0], row[1], row[2], row[3], row[4]), i);
        }
        for (int i = 0; i < 2 * KINDS.length; i++) {
            int curve = i < KINDS.length ? i : 2 * KINDS.length - 1 - i;
            int[] row = KINDS[curve];
            due("KIND", x.at(curve, row[5], 0), row[6]);
            due("INDEX of KIND " + row[6], x.at(curve, row[5], 1), row[7]);
            due("SPLIT of KIND " + row[6], x.at(curve, row[5], 6), row[8]);
        }
    }

    private static void promise10Prime() {
        dueOfNumbers("prime", (x, curve) -> x.prime(curve, 0), -1);
        dueOfNumbers("prime", (x, curve) -> x.prime(curve, -1), -1);
        Maker maker = () -> with(9, 9, 9, 99, 99);
        due("how many", maker.make().prime(0, -1), 3);
        due("the first", maker.make().prime(0, 0), 2);
        due("the last", maker.make().prime(0, 2), 6113);
        for (int i : new int[] {LOW, -3, -2, 3, 4, 15, 16, 17, 65536, HIGH}) {
            dueRefused("prime " + i, maker, x -> x.prime(0, i), -1);
        }
        dueRefused("behind the only one", PromisesEdgesTest::three, x -> x.prime(0, 1), -1);
    }

    private static void promise11Conductor() {
        dueOfNumbers("conductor", (x, curve) -> x.conductor(curve), 0);
        due("conductor of number 0", three().conductor(0), 11);
        due("conductor of number 2", three().conductor(2), 36);
    }

    private static void promise12LeastOf() {
        dueOfNumbers("leastOf", (x, curve) -> x.leastOf(curve, 0), THROWN);
        dueOfNumbers("leastOf", (x, curve) -> x.leastOf(curve, 12), THROWN);
        due("what 0", three().leastOf(0, 0), 0);
        due("what 11", three().leastOf(0, 11), -11);
        due("what 12", grown().leastOf(3, 12), 10);
        for (int what : new int[] {LOW, -12, -1, 13, 14, 65536, HIGH}) {
            dueRefused("leastOf what " + what, PromisesEdgesTest::three, x -> x.leastOf(0, what), THROWN);
        }
    }

    private static void promise13One() {
        dueOfNumbers("one", (x, curve) -> x.one(curve, curve) ? 1 : 0, 0);
        for (int other : new int[] {LOW, -1, 3, 4, 16, HIGH}) {
            dueRefused("one with " + other, PromisesEdgesTest::three, x -> x.one(0, other) ? 1 : 0, 0);
            dueRefused(other + " with one", PromisesEdgesTest::three, x -> x.one(other, 0) ? 1 : 0, 0);
        }
        due("two that are not ONE", three().one(0, 1), false);
        due("two that are", grown().one(2, 3), true);
    }

    private static void promise14Points() {
        dueOfNumbers("points", (x, curve) -> x.points(curve, 2), -1);
        dueOfNumbers("points", (x, curve) -> x.points(curve, 199), -1);
        for (int p : new int[] {LOW, -2, 0, 1, 4, 187, 198, 200, 201, 211, HIGH}) {
            dueRefused("points at " + p, PromisesEdgesTest::three, x -> x.points(0, p), -1);
        }
        due("one point alone", with(0, 0, 1, 1, 1).points(0, 2), 1);
        due("all at 2", with(0, 0, 1, 1, 0).points(0, 2), 5);
    }

    private static void promise15Trace() {
        dueOfNumbers("trace", (x, curve) -> x.trace(curve, 2), -1000);
        dueOfNumbers("trace", (x, curve) -> x.trace(curve, 199), -1000);
        for (int p : new int[] {LOW, -2, 0, 1, 4, 187, 198, 200, 201, 211, HIGH}) {
            dueRefused("trace at " + p, PromisesEdgesTest::three, x -> x.trace(0, p), -1000);
        }
        due("the greatest at 2", with(0, 0, 1, 1, 1).trace(0, 2), 2);
        due("the least at 2", with(0, 0, 1, 1, 0).trace(0, 2), -2);
    }

    private static void promise16Own() {
        dueOfNumbers("own", (x, curve) -> x.own(curve), -1);
        due("own of number 2", three().own(2), 6);
    }

    private static void promise17Best() {
        dueOfNumbers("best", (x, curve) -> x.best(curve), 0);
        dueRefused("no TWIST", PromisesEdgesTest::withoutTwist, x -> x.best(1), 0);
        due("DISC 2000000000", twistedTo2000000000().best(1), 2);
        due("a full row has one", full().best(15), 1);
    }

    private static CurveFalls twistedTo2000000000() {
        CurveFalls x = with(0, -4, 0, -78, -7);
        due("twist", x.twist(0, 2), 1);
        due("DISC", x.leastOf(1, 11), 2000000000);
        return x;
    }

    // a1, a2, a3, a4, a6, best, then the others of which the CONDUCTOR is as small.
    private static final int[][] EQUAL = {
        {0, 0, 1, 0, 0, 1, -3}, {1, -1, 0, -2, -1, 1, -7}, {0, 1, 0, -3, 1, 1, -1, 2, -2}, {0, 0, 0, 0, -16, -1, 3},
        {0, 0, 0, -35, 98, -1, 7}, {0, 0, 0, -4, 0, 2, -2}, {0, 0, 0, 0, 2, 2, -6}, {0, 0, 0, 0, -2, -2, 6}, {0, 0, 0, -9, 0, 3, -3},
        {0, 0, 0, -30, 56, 3, -3, 6, -6}, {0, 0, 0, -25, 0, 5, -5}};

    private static void promise17EqualOnes() {
        for (int[] row : EQUAL) {
            CurveFalls x = with(row[0], row[1], row[2], row[3], row[4]);
            due("best", x.best(0), row[5]);
            for (int i = 6; i < row.length; i++) {
                due("as small by " + row[i], x.twisted(0, row[i]), x.twisted(0, row[5]));
            }
        }
    }

    private static void promise18Twisted() {
        dueOfNumbers("twisted", (x, curve) -> x.twisted(curve, 1), 0);
        dueOfNumbers("twisted", (x, curve) -> x.twisted(curve, -10), 0);
        for (int d : new int[] {0, 4, -4, 8, -8, 9, -9, 11, -11, LOW, HIGH}) {
            dueRefused("twisted by " + d, PromisesEdgesTest::three, x -> x.twisted(1, d), 0);
        }
        due("of itself by 1", three().twisted(1, 1), 37);
        due("of itself by 1, of a GROWN one", grown().twisted(3, 1), 11);
        due("by 10", three().twisted(0, 10), 17600);
        due("by -10", three().twisted(0, -10), 17600);
        for (int d : new int[] {1, -1, 2, -3, 10}) {
            dueRefused("no TWIST, by " + d, PromisesEdgesTest::withoutTwist, x -> x.twisted(1, d), 0);
        }
        due("DISC 2000000000, by 1", twistedTo2000000000().twisted(1, 1), 1600);
        due("DISC 2000000000, by 2", twistedTo2000000000().twisted(1, 2), 200);
        due("whatever coefficients: a6 100001", with(0, -8, 1, -67, -71).twisted(0, -7), 413721357);
        due("whatever coefficients: DISC above 10^18", with(-9, 9, 9, -99, -99).twisted(0, 10), 37195200);
        due("16 there are", full().twisted(15, -3), 333);
    }

    private static void promise19Small() {
        dueOfNumbers("small", (x, curve) -> x.small(curve), -1);
        due("none at all", with(0, 0, 0, 0, -5).small(0), 0);
        due("a single one", with(0, 0, 0, 0, 27).small(0), 1);
        due("which is", with(0, 0, 0, 0, 27).point(0, 0, 0), -3);
    }

    private static void promise20Point() {
        dueOfNumbers("point", (x, curve) -> x.point(curve, 0, 0), THROWN);
        dueOfNumbers("point", (x, curve) -> x.point(curve, 0, 1), THROWN);
        due("the first", three().point(2, 0, 0), -1);
        due("the last", three().point(2, 4, 0), 2);
        due("its y", three().point(2, 4, 1), 3);
        for (int i : new int[] {LOW, -2, -1, 5, 6, 241, 242, 243, 65536, HIGH}) {
            dueRefused("point " + i, PromisesEdgesTest::three, x -> x.point(2, i, 0), THROWN);
            dueRefused("point " + i, PromisesEdgesTest::three, x -> x.point(2, i, 1), THROWN);
        }
        for (int what : new int[] {LOW, -1, 2, 3, HIGH}) {
            dueRefused("point, what " + what, PromisesEdgesTest::three, x -> x.point(2, 0, what), THROWN);
        }
        dueRefused("there is no point", () -> with(0, 0, 0, 0, -5), x -> x.point(0, 0, 0), THROWN);
    }

    private static void promise21Minus() {
        dueOfNumbers("minus", (x, curve) -> x.minus(curve, 0), -1);
        due("the first is its own", three().minus(2, 0), 0);
        due("the last", three().minus(2, 4), 3);
        for (int i : new int[] {LOW, -2, -1, 5, 6, 241, 242, 243, 65536, HIGH}) {
            dueRefused("minus " + i, PromisesEdgesTest::three, x -> x.minus(2, i), -1);
        }
        dueRefused("there is no point", () -> with(0, 0, 0, 0, -5), x -> x.minus(0, 0), -1);
    }

    private static void promise22Count() {
        int[] due = {3, 3, 7, 7};
        for (int what = 0; what < 4; what++) {
            due("count " + what, three().count(what), due[what]);
        }
        int[] ofSixteen = {16, 1, 65535, 65535};
        for (int what = 0; what < 4; what++) {
            due("count " + what + " of 16", full().count(what), ofSixteen[what]);
        }
        for (int what : new int[] {LOW, -2, -1, 4, 5, 65536, HIGH}) {
            dueRefused("count " + what, PromisesEdgesTest::three, x -> x.count(what), -1);
            dueRefused("count " + what, CurveFalls::new, x -> x.count(what), -1);
        }
        promise22Least();
    }

    // a1, a2, a3, a4, a6, then whether it is LEAST for all, whether LEAST at each p.
    private static final int[][] LEASTS = {
        {0, 1, 1, -1, 2, 1, 1}, {0, 2, 1, -1, 2, 0, 1}, {0, -1, 1, -1, 2, 1, 1}, {0, -2, 1, -1, 2, 0, 1}, {1, 0, 1, -1, 2, 1, 1},
        {2, 0, 1, -1, 2, 0, 1}, {-1, 0, 1, -1, 2, 0, 1}, {1, 0, 2, -1, 2, 0, 1}, {1, 0, -1, -1, 2, 0, 1}, {0, 0, 0, -1, 0, 1, 1},
        {0, 0, 0, -16, 0, 0, 0}, {0, 0, 0, -8, 0, 1, 1}, {0, 0, 0, 0, 64, 0, 0}, {0, 0, 0, 0, 32, 1, 1}, {0, 0, 0, 0, -16, 1, 1}};

    private static void promise22Least() {
        CurveFalls x = new CurveFalls();
        int forAll = 0;
        int atEach = 0;
        for (int i = 0; i < LEASTS.length; i++) {
            int[] row = LEASTS[i];
            due("curve", x.curve(row[0], row[1], row[2], row[3], row[4]), i);
            forAll |= row[5] << i;
            atEach |= row[6] << i;
            due("LEAST for all", x.count(2), forAll);
            due("LEAST at each p", x.count(3), atEach);
        }
    }
}
