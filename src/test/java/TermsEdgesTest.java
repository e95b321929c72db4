/**
 * The sentences of "Terms" that name a boundary, each on both sides of it: the last that is allowed,
 * the first that is refused. Where calls cannot come to the very next number, the nearest one stands
 * here that they come to.
 */
public final class TermsEdgesTest extends Checks {
    private static final int[] TWISTERS = {-10, -7, -6, -5, -3, -2, -1, 2, 3, 5, 6, 7, 10};

    public static void main(String[] args) {
        sixteenAtMost();
        numberedAsTheyCome();
        discNever0();
        a1AndA2OfChange();
        a3OfChange();
        a4AndA6OfChange();
        coefficientsOfScale();
        coefficientsOfTwist();
        discOfScale();
        discThatWouldWrap();
        primesFrom2To999983();
        primesFrom2To199();
        twistByD();
        discOfLeastAtMost2000000000();
        smallPointsFromMinus60To60();
        finish();
    }

    /** Number 1 is number 0 GROWN by 2, so that it can be SHRUNK again. */
    private static CurveFalls holding(int many) {
        CurveFalls x = with(0, -1, 1, 0, 0);
        due("scale", x.scale(0, 2, true), 1);
        for (int i = 2; i < many; i++) {
            due("curve", x.curve(0, 0, 1, -1, i % 3), i);
        }
        return x;
    }

    private static final Asked[] ADDING = {x -> x.curve(1, 0, 1, 4, -6), x -> x.change(0, 1, 2, 3), x -> x.scale(0, 3, true),
        x -> x.scale(1, 2, false), x -> x.least(1), x -> x.twist(0, -3)};

    private static void sixteenAtMost() {
        for (int i = 0; i < ADDING.length; i++) {
            Asked adding = ADDING[i];
            CurveFalls x = holding(15);
            due("the 16th of way " + i, adding.of(x), 15);
            due("16 there are", x.count(0), 16);
            dueRefused("the 17th of way " + i, () -> holding(16), adding, -1);
            CurveFalls again = holding(16);
            due("the 17th of way " + i, adding.of(again), -1);
            due("drop", again.drop(), 15);
            due("room again for way " + i, adding.of(again), 15);
            due("and no more for way " + i, adding.of(again), -1);
        }
    }

    private static void numberedAsTheyCome() {
        CurveFalls x = holding(2);
        for (int i = 0; i < ADDING.length; i++) {
            due("number " + (2 + i), ADDING[i].of(x), 2 + i);
        }
        due("what is refused takes no number", x.curve(0, 0, 0, 0, 0), -1);
        due("the next", x.curve(0, 0, 1, -1, 0), 8);
        dueCoefficients("curve", x, 2, 1, 0, 1, 4, -6);
        dueCoefficients("change", x, 3, 4, -2, 7, -13, -12);
        dueCoefficients("grown", x, 4, 0, -9, 27, 0, 0);
        dueCoefficients("shrunk", x, 5, 0, -1, 1, 0, 0);
        dueCoefficients("least", x, 6, 0, -1, 1, 0, 0);
        dueCoefficients("the last", x, 8, 0, 0, 1, -1, 0);
    }

    private static long disc(long a1, long a2, long a3, long a4, long a6) {
        long b2 = a1 * a1 + 4 * a2;
        long b4 = a1 * a3 + 2 * a4;
        long b6 = a3 * a3 + 4 * a6;
        long b8 = a1 * a1 * a6 + 4 * a2 * a6 - a1 * a3 * a4 + a2 * a3 * a3 - a4 * a4;
        return -b2 * b2 * b8 - 8 * b4 * b4 * b4 - 27 * b6 * b6 + 9 * b2 * b4 * b6;
    }

    /** All of a4 -12 to 12, a6 -20 to 20 with small a1, a2, a3: those of DISC 0 and no others are refused. */
    private static void discNever0() {
        int refused = 0;
        for (int n = 0; n < 3 * 5 * 3 * 25; n++) {
            int a1 = n % 3 - 1;
            int a2 = n / 3 % 5 - 2;
            int a3 = n / 15 % 3 - 1;
            int a4 = n / 45 - 12;
            CurveFalls x = new CurveFalls();
            for (int a6 = -20; a6 <= 20; a6++) {
                boolean none = disc(a1, a2, a3, a4, a6) == 0;
                refused += none ? 1 : 0;
                due("curve of DISC " + disc(a1, a2, a3, a4, a6), x.curve(a1, a2, a3, a4, a6), none ? -1 : 0);
                due("how many are left", none ? x.count(0) : x.drop(), 0);
            }
        }
        due("some are of DISC 0", refused > 20, true);
        for (int sign = -1; sign <= 1; sign += 2) {
            int a6 = 2 * sign;
            dueRefused("DISC 0", () -> holding(3), x -> x.curve(0, 0, 0, -3, a6), -1);
            due("DISC 1296", with(0, 0, 0, -3, sign).of(0, 11), 1296);
            due("DISC -2160", with(0, 0, 0, -3, 3 * sign).of(0, 11), -2160);
        }
        dueRefused("DISC 0", () -> holding(3), x -> x.curve(0, 0, 0, 0, 0), -1);
        due("DISC -11", with(0, -1, 1, 0, 0).of(0, 11), -11);
    }

    /**
     * A row of changes from one CURVE. a1 never comes near 100000, nor a2 above 0: c4 is
     * b2 b2 - 24 b4, and of a1 beyond 1000, or a2 beyond 99999, it would be above 1.5 * 10^11. But j stays
     * in all that change(), scale(), least() and twist() make, so that c4 is at most 10^6 times what
     * curve() gives (20385), as DISC is at most 10^18.
     */
    private static CurveFalls steepened(int a2) {
        CurveFalls x = with(8, a2, -9, -99, 0);
        due("a1 0", x.change(0, 0, -4, 0), 1);
        due("r", x.change(1, -55, 0, -35), 2);
        for (int i = 2; i < 5; i++) {
            due("s 99", x.change(i, 0, 99, 0), i + 1);
        }
        return x;
    }

    private static void a1AndA2OfChange() {
        CurveFalls x = steepened(5);
        due("a2 -100000", x.change(5, 0, 19, 0), 6);
        dueCoefficients("a2 -100000", x, 6, 632, -100000, -79, 31594, -96965);
        due("changed by nothing", x.change(6, 0, 0, 0), 7);
        dueRefused("a2 -100001", () -> steepened(4), y -> y.change(5, 0, 19, 0), -1);
        due("a2 one more, not so far", steepened(4).change(5, 0, 18, 0), 6);
    }

    private static CurveFalls movedFar(int sign) {
        CurveFalls x = with(0, -7, sign, -66, -96);
        due("change", x.change(0, 21, 7 * sign, 68 * sign), 1);
        due("by 9", x.scale(1, 9, true), 2);
        dueCoefficients("by 9", x, 2, 126 * sign, 567, 99873 * sign, 26244, 0);
        return x;
    }

    private static void a3OfChange() {
        for (int sign = -1; sign <= 1; sign += 2) {
            int side = sign;
            CurveFalls x = with(0, 0, 0, 47, -2);
            due("change", x.change(0, 0, 8 * sign, 0), 1);
            due("change", x.change(1, 54, 3 * sign, -32 * sign), 2);
            due("a3 of size 100000", x.scale(2, 5, true), 3);
            due("changed by nothing", x.change(3, 0, 0, 0), 4);
            dueCoefficients("a3 of size 100000", x, 4, 110 * sign, 1025, 100000 * sign, -3125, 0);
            CurveFalls odd = movedFar(sign);
            due("a3 of size 99999", odd.change(2, 1, 0, 0), 3);
            due("a3 of size 99999", odd.of(3, 2), 99999 * sign);
            dueRefused("a3 of size 100001", () -> movedFar(side), y -> y.change(2, 1, 0, side), -1);
        }
    }

    private static CurveFalls steepenedBySign(int a4, int sign) {
        CurveFalls x = with(0, 0, 0, a4, 1);
        due("change", x.change(0, 0, 99 * sign, 99), 1);
        due("change", x.change(1, 0, 99 * sign, 99), 2);
        return x;
    }

    private static void a4AndA6OfChange() {
        for (int sign = -1; sign <= 1; sign += 2) {
            int side = sign;
            CurveFalls x = steepenedBySign(0, sign);
            due("a4 of size 100000", x.change(2, 0, 52 * sign, 2), 3);
            due("a4 of size 100000", x.of(3, 3), -100000 * sign);
            dueRefused("a4 of size 100001", () -> steepenedBySign(-side, side), y -> y.change(2, 0, 52 * side, 2), -1);
            CurveFalls six = with(0, 0, 0, 57, 42 * sign);
            due("a6 of size 100000", six.change(0, 46 * sign, 0, 0), 1);
            due("a6 of size 100000", six.of(1, 4), 100000 * sign);
            dueRefused("a6 of size 100001", () -> with(0, 0, 0, 57, 43 * side), y -> y.change(0, 46 * side, 0, 0), -1);
        }
    }

    // a1, a2, a3, a4, a6, r, s, t by which it is CHANGED, u by which it is GROWN, which coefficient, what that would be.
    private static final int[][] GROWN = {
        {0, -9, -9, -99, -14, 0, 79, 2, 4, 1, -100000}, {0, -7, -9, -93, -99, -1, 79, 2, 4, 1, -100016},
        {0, -1, -9, -99, 90, -10, 63, 5, 5, 1, -100000}, {0, 4, -9, -99, -54, -12, 63, 6, 5, 1, -100025},
        {0, -3, 0, -99, -99, -9, 89, -34, 2, 3, 100000}, {0, -3, 0, -99, -99, 14, 79, -37, 2, 3, 100016},
        {0, -3, 0, -99, -99, -5, -92, -34, 2, 3, -100000}, {0, -3, 0, -99, -99, -8, -94, -34, 2, 3, -100016},
        {0, -3, 0, -99, -76, -1, 25, -5, 5, 3, 100000}, {0, -3, 0, -99, -99, 12, -25, -2, 5, 3, 100625},
        {0, -3, 0, -99, -99, -1, -35, -1, 5, 3, -100000}, {0, -3, 0, -99, -5, 0, -31, -1, 5, 3, -100625},
        {0, -3, 0, -55, -89, -2, 23, -1, 9, 3, 98415}, {0, -3, 0, -56, -96, -4, 0, -4, 9, 3, 104976},
        {0, -3, 0, -56, -96, 11, -8, -16, 9, 3, -98415}, {0, -3, 0, -56, -96, -4, -4, -4, 9, 3, -104976},
        {0, -3, 0, -99, -82, 16, -99, -10, 2, 4, 99968}, {0, -3, 0, -99, -81, 16, -99, -10, 2, 4, 100032},
        {0, -3, 0, -99, -96, -13, -99, -7, 2, 4, -99968}, {0, -3, 0, -99, -97, -13, -99, -7, 2, 4, -100032},
        {0, -3, 0, -99, -98, -4, -86, -7, 3, 4, 99873}, {0, -3, 0, -99, -97, -4, -86, -7, 3, 4, 100602},
        {0, -3, 0, -99, -99, 13, -37, -21, 3, 4, -99873}, {0, -3, 0, -99, -98, -4, -33, -18, 3, 4, -100602}};

    private static CurveFalls changedOnce(int[] row) {
        CurveFalls x = with(row[0], row[1], row[2], row[3], row[4]);
        due("change", x.change(0, row[5], row[6], row[7]), 1);
        return x;
    }

    private static void coefficientsOfScale() {
        for (int[] row : GROWN) {
            int u = row[8];
            int due = row[10];
            String call = "grown by " + u + " to a coefficient " + due;
            if (Math.abs(due) <= 100000) {
                CurveFalls x = changedOnce(row);
                due(call, x.scale(1, u, true), 2);
                due(call, x.of(2, row[9]), due);
            } else {
                dueRefused(call, () -> changedOnce(row), x -> x.scale(1, u, true), -1);
            }
        }
    }

    // a1, a2, a3, a4, a6, d, LEAST of the TWIST, its CONDUCTOR (PARI/GP's answers).
    private static final long[][] TWISTED = {
        {0, -3, 0, -99, 1, -10, 0, 0, 0, -10200, 100000, 794966400}, {0, -8, 1, -67, -71, -7, 0, -1, 1, -4328, 100001, 413721357},
        {0, -3, 0, -99, 1, 10, 0, 0, 0, -10200, -100000, 794966400}, {1, -8, -8, -68, 13, 2, 0, 1, 0, -5889, -100001, 2177967296L},
        {1, -2, -9, 68, -57, 10, 0, -1, 0, 99967, -40063, 4995003200L}, {1, -4, -7, 71, -94, 10, 0, 0, 0, 100500, -82000, 12689006400L},
        {1, -4, -9, -53, 54, 10, 0, 0, 0, -99500, -98000, 12312625600L}, {1, -6, -9, -47, 92, 10, 0, 1, 0, -100033, -67937, 3128100800L}};

    /** DISC of a TWIST is never too great alone: of a4, a6 up to 100000 LEAST has DISC up to 7 * 10^16. */
    private static void coefficientsOfTwist() {
        for (long[] row : TWISTED) {
            Maker maker = () -> with((int) row[0], (int) row[1], (int) row[2], (int) row[3], (int) row[4]);
            int d = (int) row[5];
            CurveFalls x = maker.make();
            due("CONDUCTOR whatever coefficients", x.twisted(0, d), row[11]);
            if (Math.max(Math.abs(row[9]), Math.abs(row[10])) <= 100000) {
                due("twist with a4 " + row[9] + ", a6 " + row[10], x.twist(0, d), 1);
                dueCoefficients("twist by " + d, x, 1, row[6], row[7], row[8], row[9], row[10]);
                due("CONDUCTOR", x.conductor(1), row[11]);
            } else {
                dueRefused("twist with a4 " + row[9] + ", a6 " + row[10], maker, y -> y.twist(0, d), -1);
            }
        }
    }

    // a1, a2, a3, a4, a6, the u by which it is GROWN, the next one (or 0), what DISC would be.
    private static final long[][] DISCS = {
        {0, -3, -2, -22, 23, 2, 5, 1000000000000000000L}, {8, 8, -2, -6, 0, 2, 5, 1000016000000000000L},
        {9, 5, 4, -1, 0, 2, 5, -999963000000000000L}, {1, 9, -9, 8, 0, 2, 5, -1000033000000000000L},
        {8, 8, 8, 13, 0, 9, 0, 999990351791255232L}, {9, 3, -5, -8, 0, 9, 0, 1000096827726508569L},
        {9, 9, 7, -15, 0, 8, 0, -999356495126593536L}, {9, 9, -6, 24, 0, 8, 0, -1000007749607620608L}};

    private static CurveFalls readyToGrow(long[] row) {
        CurveFalls x = with((int) row[0], (int) row[1], (int) row[2], (int) row[3], (int) row[4]);
        boolean moved = row[4] != 0;
        due("change", moved ? x.change(0, -3, -2, -5) : x.change(0, 0, 0, 0), 1);
        due("first", row[6] == 0 ? x.change(1, 0, 0, 0) : x.scale(1, (int) row[5], true), 2);
        return x;
    }

    /** CHANGED and SHRUNK ones have no greater DISC; only GROWN ones come to the bound. */
    private static void discOfScale() {
        for (long[] row : DISCS) {
            int u = (int) (row[6] == 0 ? row[5] : row[6]);
            if (Math.abs(row[7]) <= 1000000000000000000L) {
                CurveFalls x = readyToGrow(row);
                due("DISC " + row[7], x.scale(2, u, true), 3);
                due("DISC " + row[7], x.of(3, 11), row[7]);
                due("DISC stays", x.change(3, 0, 1, 0), 4);
                due("SCALE", x.leastOf(4, 12), row[6] == 0 ? row[5] : row[5] * row[6]);
            } else {
                dueRefused("DISC " + row[7], () -> readyToGrow(row), x -> x.scale(2, u, true), -1);
            }
        }
    }

    // a1, a2, a3, a4, a6, the u by which it is GROWN, the next one: DISC leaves the range of long and would come back,
    // wrapped, to less than 10^18 (of the last but one to 0), while every coefficient stays small enough.
    private static final int[][] WRAPPING = {{0, -1, 1, 0, 0, 5, 7}, {0, -1, 1, 0, 0, 7, 5}, {0, 8, 1, 0, 0, 9, 5},
        {9, 7, -9, 9, 0, 2, 5}, {4, 7, -9, -1, 0, 3, 4}, {0, -9, -1, 0, 0, 8, 3}, {0, -9, 2, 0, 0, 4, 8}, {0, -7, 5, 0, 0, 3, 9}};

    private static void discThatWouldWrap() {
        for (int[] row : WRAPPING) {
            Maker maker = () -> {
                CurveFalls x = with(row[0], row[1], row[2], row[3], row[4]);
                due("first", x.scale(0, row[5], true), 1);
                return x;
            };
            dueRefused("DISC that would wrap", maker, x -> x.scale(1, row[6], true), -1);
        }
    }

    private static boolean isPrime(int p) {
        for (int q = 2; q * q <= p; q++) {
            if (p % q == 0) {
                return false;
            }
        }
        return p > 1;
    }

    private static void primesFrom2To999983() {
        for (int first : new int[] {-40, 0, 40, 80, 120, 160, 200, 999880, 999920, 999960, 1000000, 1000040}) {
            CurveFalls x = with(0, -1, 1, 0, 0);
            for (int p = first; p < first + 40; p++) {
                boolean allowed = p <= 999983 && isPrime(p);
                due("KIND at " + p, x.at(0, p, 0), allowed ? (p == 11 ? 1 : 0) : -1);
                due("m at " + p, x.at(0, p, 3), allowed ? 1 : -1);
            }
        }
        int[] due = {1, 1, 1, 1, 1, 1, 0, 0};
        CurveFalls last = with(1, -6, 0, -89, 40);
        for (int what = 0; what < 8; what++) {
            int asked = what;
            due("at 999983, what " + what, last.at(0, 999983, what), due[what]);
            dueRefused("at 1000033", () -> with(1, -9, -9, 5, 96), x -> x.at(0, 1000033, asked), -1);
            dueRefused("at 1", () -> with(1, -9, -9, 5, 96), x -> x.at(0, 1, asked), -1);
        }
        due("at 2, a prime of DISC", with(0, 0, 0, -1, 0).at(0, 2, 0), 3);
        due("1000033 goes in DISC", with(1, -9, -9, 5, 96).prime(0, 0), 1000033);
        due("and in CONDUCTOR", with(1, -9, -9, 5, 96).conductor(0), 1000033);
    }

    private static void primesFrom2To199() {
        for (int first = -20; first < 240; first += 40) {
            CurveFalls x = with(0, 0, 0, 0, 1);
            for (int p = first; p < first + 40; p++) {
                boolean allowed = p <= 199 && isPrime(p);
                due("points at " + p, x.points(0, p) > 0, allowed);
                due("trace at " + p, x.trace(0, p) > -1000, allowed);
            }
        }
        for (int p : new int[] {LOW, -199, -2, 0, 1, 4, 198, 200, 211, 999983, HIGH}) {
            dueRefused("points at " + p, () -> holding(2), x -> x.points(1, p), -1);
            dueRefused("trace at " + p, () -> holding(2), x -> x.trace(1, p), -1000);
        }
        CurveFalls x = with(0, -1, 1, 0, 0);
        due("points at 2", x.points(0, 2), 5);
        due("points at 199", x.points(0, 199), 200);
        due("trace at 2", x.trace(0, 2), -2);
        due("trace at 199", x.trace(0, 199), 0);
        due("trace at 197", x.trace(0, 197), -2);
    }

    private static boolean isTwister(int d) {
        for (int allowed : TWISTERS) {
            if (d == allowed) {
                return true;
            }
        }
        return false;
    }

    private static void twistByD() {
        for (int d = -13; d <= 13; d++) {
            int by = d;
            if (isTwister(d)) {
                CurveFalls x = holding(2);
                due("twist by " + d, x.twist(0, d), 2);
                due("twist by " + d + " of a GROWN one", x.twist(1, d), 3);
                due("which is ONE with that", x.one(2, 3), true);
                due("CONDUCTOR of it", x.twisted(0, d), x.conductor(2));
            } else {
                dueRefused("twist by " + d, () -> holding(2), x -> x.twist(0, by), -1);
                dueRefused("twisted by " + d, () -> holding(2), x -> x.twisted(0, by), d == 1 ? 11 : 0);
            }
        }
        for (int d : new int[] {LOW, LOW + 1, -100, 100, 65537, HIGH - 1, HIGH}) {
            dueRefused("twist by " + d, () -> holding(2), x -> x.twist(0, d), -1);
            dueRefused("twisted by " + d, () -> holding(2), x -> x.twisted(0, d), 0);
        }
    }

    // a1, a2, a3, a4, a6, d, DISC of that TWIST, its CONDUCTOR, its best().
    private static final long[][] NEAR = {
        {0, -4, 0, -78, -7, 2, 2000000000, 1600, 2}, {6, 7, -9, -54, 25, 2, 2000002880, 2000002880, 0},
        {6, 5, -8, -14, 89, 2, -1999997952, 124999872, 2}, {1, -8, -8, 3, -29, -1, -2000003072, 3906256, 0}};

    private static CurveFalls twistedOnce(long[] row) {
        CurveFalls x = with((int) row[0], (int) row[1], (int) row[2], (int) row[3], (int) row[4]);
        due("twist", x.twist(0, (int) row[5]), 1);
        due("DISC of it", x.of(1, 11), row[6]);
        return x;
    }

    private static void discOfLeastAtMost2000000000() {
        for (long[] row : NEAR) {
            boolean has = Math.abs(row[6]) <= 2000000000;
            due("CONDUCTOR", twistedOnce(row).conductor(1), row[7]);
            due("best", twistedOnce(row).best(1), row[8]);
            for (int d : TWISTERS) {
                if (has) {
                    due("twisted by " + d, twistedOnce(row).twisted(1, d) > 0, true);
                } else {
                    dueRefused("twist by " + d, () -> twistedOnce(row), x -> x.twist(1, d), -1);
                    dueRefused("twisted by " + d, () -> twistedOnce(row), x -> x.twisted(1, d), 0);
                }
            }
            due("twisted by 1", twistedOnce(row).twisted(1, 1), has ? row[7] : 0);
            due("back by d", twistedOnce(row).twist(1, (int) row[5]), has ? 2 : -1);
        }
        CurveFalls grown = with(0, -1, 1, 0, 0);
        due("by 9", grown.scale(0, 9, true), 1);
        due("DISC above 2000000000, but not of LEAST", grown.of(1, 11), -11 * 282429536481L);
        due("it has a TWIST", grown.twist(1, -3), 2);
        due("and a best", grown.best(1), 1);
    }

    private static void smallPointsFromMinus60To60() {
        CurveFalls x = with(0, 0, 0, -55, 51);
        due("x 7, 14, 15", x.small(0), 6);
        due("moved by -45", x.change(0, -45, 0, 0), 1);
        due("x 52, 59, 60", x.small(1), 6);
        due("60", x.point(1, 5, 0), 60);
        due("moved by -46", x.change(0, -46, 0, 0), 2);
        due("x 53, 60", x.small(2), 4);
        due("60", x.point(2, 3, 0), 60);
        CurveFalls y = with(7, -3, -9, -60, -98);
        due("x -15, -14", y.small(0), 4);
        due("moved by 45", y.change(0, 45, 0, 0), 1);
        due("x -60, -59", y.small(1), 4);
        due("-60", y.point(1, 0, 0), -60);
        due("moved by 46", y.change(0, 46, 0, 0), 2);
        due("x -60", y.small(2), 2);
        due("-60", y.point(2, 0, 0), -60);
    }
}
