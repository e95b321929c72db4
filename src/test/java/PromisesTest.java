/** Promise by promise: ordinary inputs, the edges that the document names, wrong inputs. */
public final class PromisesTest extends Checks {
    public static void main(String[] args) {
        promise1NewObject();
        promise2Curve();
        promise3Change();
        promise4Scale();
        promise5Least();
        promise6Twist();
        promise7Drop();
        promise8Of();
        promise9At();
        promise10Prime();
        promise11Conductor();
        promise12LeastOf();
        promise13One();
        promise14Points();
        promise15Trace();
        promise16Own();
        promise17Best();
        promise18Twisted();
        promise19Small();
        promise20Point();
        promise21Minus();
        promise22Count();
        finish();
    }

    private static void promise1NewObject() {
        CurveFalls x = new CurveFalls();
        for (int what = 0; what < 4; what++) {
            due("new count", x.count(what), 0);
        }
        due("new drop", x.drop(), CurveFalls.NONE);
        due("new change", x.change(0, 0, 0, 0), -1);
        due("new scale", x.scale(0, 2, true), -1);
        due("new least", x.least(0), -1);
        due("new twist", x.twist(0, -1), -1);
        due("new at", x.at(0, 2, 0), -1);
        due("new prime", x.prime(0, -1), -1);
        due("new conductor", x.conductor(0), 0);
        due("new one", x.one(0, 0), false);
        due("new points", x.points(0, 2), -1);
        due("new trace", x.trace(0, 2), -1000);
        due("new own", x.own(0), -1);
        due("new best", x.best(0), 0);
        due("new twisted", x.twisted(0, 1), 0);
        due("new small", x.small(0), -1);
        due("new minus", x.minus(0, 0), -1);
        dueNoSuchElement("new of", () -> x.of(0, 0));
        dueNoSuchElement("new leastOf", () -> x.leastOf(0, 0));
        dueNoSuchElement("new point", () -> x.point(0, 0, 0));
        due("two objects are apart", with(0, 0, 1, -1, 0).count(0) + 10 * x.count(0), 1);
        due("NONE", CurveFalls.NONE, -1);
    }

    private static void promise2Curve() {
        CurveFalls x = new CurveFalls();
        due("all greatest", x.curve(9, 9, 9, 99, 99), 0);
        dueCoefficients("all greatest", x, 0, 9, 9, 9, 99, 99);
        due("all least", x.curve(-9, -9, -9, -99, -99), 1);
        dueCoefficients("all least", x, 1, -9, -9, -9, -99, -99);
        int[][] edges = {{10, 9}, {10, 9}, {10, 9}, {100, 99}, {100, 99}};
        for (int i = 0; i < 5; i++) {
            for (int bad : new int[] {edges[i][0], -edges[i][0], LOW, HIGH}) {
                int[] a = {0, 0, 1, -1, 0};
                a[i] = bad;
                due("a coefficient " + bad, x.curve(a[0], a[1], a[2], a[3], a[4]), -1);
            }
        }
        due("DISC 0: cusp", x.curve(0, 0, 0, 0, 0), -1);
        due("DISC 0: node", x.curve(0, 1, 0, 0, 0), -1);
        due("DISC 0: node elsewhere", x.curve(0, 0, 0, -3, 2), -1);
        due("DISC 0: with a1", x.curve(1, 0, 0, 0, 0), -1);
        due("what is refused takes no number", x.curve(0, 0, 1, -1, 0), 2);
        due("the same again", x.curve(0, 0, 1, -1, 0), 3);
        due("a seventeenth", full().curve(0, 0, 1, -1, 0), -1);
    }

    private static void promise3Change() {
        CurveFalls x = with(1, 2, 3, 4, 5);
        due("change", x.change(0, 2, 3, 5), 1);
        dueCoefficients("change", x, 1, 7, -4, 15, -26, -21);
        due("DISC stays", x.of(1, 11), x.of(0, 11));
        due("c4 stays", x.of(1, 9), x.of(0, 9));
        due("its own is as before", x.of(0, 0), 1);
        due("by nothing", x.change(0, 0, 0, 0), 2);
        dueCoefficients("by nothing", x, 2, 1, 2, 3, 4, 5);
        due("t 99", x.change(0, 0, 0, 99), 3);
        due("t -99", x.change(0, 0, 0, -99), 4);
        due("s 99", x.change(0, 0, 99, 0), 5);
        due("s -99", x.change(0, 0, -99, 0), 6);
        due("r 99, a6 too great", x.change(0, 99, 0, 0), -1);
        for (int bad : new int[] {100, -100, LOW, HIGH}) {
            due("r", x.change(0, bad, 0, 0), -1);
            due("s", x.change(0, 0, bad, 0), -1);
            due("t", x.change(0, 0, 0, bad), -1);
            due("curve", x.change(bad, 0, 0, 0), -1);
        }
        due("curve -1", x.change(-1, 0, 0, 0), -1);
        due("curve behind all", x.change(7, 0, 0, 0), -1);
        due("a row that is full", full().change(0, 0, 0, 0), -1);
        changeByGreatR();
        changeBounds();
    }

    // Changes after which r 99, -99 leave all within bounds, as 100, -100 would.
    private static void changeByGreatR() {
        CurveFalls up = with(0, 0, 0, 0, 1);
        due("s 10", up.change(0, 0, 10, 0), 1);
        due("r 100", up.change(1, 100, 0, 0), -1);
        due("r 99", up.change(1, 99, 0, 0), 2);
        dueCoefficients("r 99", up, 2, 20, 197, 1980, 9603, -9800);
        CurveFalls down = with(9, 9, 9, 0, 0);
        due("r 46", down.change(0, 46, 0, 99), 1);
        due("r -100", down.change(1, -100, 0, 0), -1);
        due("r -99", down.change(1, -99, 0, 0), 2);
        due("r -99", down.of(2, 1), -150);
    }

    private static void changeBounds() {
        CurveFalls high = with(0, 0, 0, 57, 42);
        due("a6 100000", high.change(0, 46, 0, 0), 1);
        due("a6 100000", high.of(1, 4), 100000);
        due("a6 100001", with(0, 0, 0, 57, 43).change(0, 46, 0, 0), -1);
        CurveFalls low = with(0, 0, 0, 57, -42);
        due("a6 -100000", low.change(0, -46, 0, 0), 1);
        due("a6 -100000", low.of(1, 4), -100000);
        due("a6 -100001", with(0, 0, 0, 57, -43).change(0, -46, 0, 0), -1);
        for (int sign = -1; sign <= 1; sign += 2) {
            for (int more = 0; more < 2; more++) {
                CurveFalls x = with(0, 0, 0, -sign * more, 1);
                x.change(0, 0, sign * 99, 99);
                x.change(1, 0, sign * 99, 99);
                due("a4 of size 100000 or 1 more", x.change(2, 0, sign * 52, 2), more == 0 ? 3 : -1);
                if (more == 0) {
                    due("a4", x.of(3, 3), -sign * 100000);
                }
            }
        }
        CurveFalls steep = with(0, 0, 0, 0, 1);
        for (int i = 0; i < 3; i++) {
            due("s 99 again", steep.change(i, 0, 99, 0), i + 1);
        }
        due("a2 -99856", steep.change(3, 0, 19, 0), 4);
        due("a2", steep.of(4, 1), -99856);
        due("b2 stays", steep.of(4, 5), 0);
        due("c6 of great parts", steep.of(4, 10), -864);
        due("DISC of great parts", steep.of(4, 11), -432);
        due("a2 -100489", steep.change(3, 0, 20, 0), -1);
    }

    private static void promise4Scale() {
        CurveFalls x = with(1, -1, 1, -1, 1);
        due("grown by 2", x.scale(0, 2, true), 1);
        dueCoefficients("grown by 2", x, 1, 2, -4, 8, -16, 64);
        due("DISC of it", x.of(1, 11), 4096 * x.of(0, 11));
        due("shrunk by 2", x.scale(1, 2, false), 2);
        dueCoefficients("shrunk by 2", x, 2, 1, -1, 1, -1, 1);
        due("not whole", x.scale(0, 2, false), -1);
        due("not whole by 3", x.scale(1, 3, false), -1);
        due("not whole by 4", x.scale(1, 4, false), -1);
        for (int u : new int[] {1, 0, -1, -2, 10, LOW, HIGH}) {
            due("u " + u, x.scale(0, u, true), -1);
            due("u " + u, x.scale(0, u, false), -1);
        }
        due("curve", x.scale(3, 2, true), -1);
        due("curve -1", x.scale(-1, 2, true), -1);
        due("a row that is full", full().scale(0, 2, true), -1);
        int[] powers = {1, 2, 3, 4, 6};
        for (int i = 0; i < 5; i++) {
            CurveFalls y = with(i == 0 ? 1 : 2, i == 1 ? 2 : 4, i == 2 ? 4 : 8, i == 3 ? 8 : 16, i == 4 ? 32 : 64);
            due("all but power " + powers[i] + " go", y.scale(0, 2, false), -1);
        }
        due("u 9 grown", with(0, 0, 1, 0, 0).scale(0, 9, true), 1);
        scaleBounds();
    }

    private static void scaleBounds() {
        CurveFalls x = with(0, -1, 1, 0, 0);
        due("by 10, with all within bounds", x.scale(0, 10, true), -1);
        due("by 5", x.scale(0, 5, true), 1);
        due("by 5 again", x.scale(1, 5, true), 2);
        due("DISC near its bound", x.of(2, 11), -655651092529296875L);
        due("c4 there", x.of(2, 9), 16L * 390625);
        due("by 9", x.scale(0, 9, true), 3);
        due("DISC above 10^18", x.scale(3, 3, true), -1);
        due("DISC above all of long", x.scale(3, 4, true), -1);
        due("DISC above, a coefficient too", x.scale(3, 9, true), -1);
        due("shrunk again", x.scale(2, 5, false), 4);
        dueCoefficients("shrunk again", x, 4, 0, -25, 125, 0, 0);
        CurveFalls most = with(0, 0, 0, -25, 0);
        most.change(0, -4, 0, 0);
        most.change(1, 0, 2, 6);
        most.scale(2, 2, true);
        due("DISC 10^18", most.scale(3, 5, true), 4);
        due("DISC 10^18", most.of(4, 11), 1000000000000000000L);
        due("and its LEAST", most.leastOf(4, 3), -25);
        due("a6 too great", with(0, 0, 0, 0, 99).scale(0, 4, true), -1);
        due("a6 98304", with(0, 0, 0, 0, 24).scale(0, 4, true), 1);
        due("a6 102400", with(0, 0, 0, 0, 25).scale(0, 4, true), -1);
        due("a4 99 by 5", with(0, 0, 0, 99, 0).scale(0, 5, true), 1);
        due("a4 99 by 6", with(0, 0, 0, 99, 0).scale(0, 6, true), -1);
        due("a4 -77 by 6", with(0, 0, 0, -77, 0).scale(0, 6, true), 1);
        due("a4 -78 by 6", with(0, 0, 0, -78, 0).scale(0, 6, true), -1);
    }

    private static void promise5Least() {
        CurveFalls x = with(0, 0, 0, -16, 0);
        due("least", x.least(0), 1);
        dueCoefficients("least", x, 1, 0, 0, 0, -1, 0);
        due("least of least", x.least(1), 2);
        dueCoefficients("least of least", x, 2, 0, 0, 0, -1, 0);
        due("grown and changed", x.scale(x.change(1, 1, 2, 3), 4, true), 4);
        due("its least", x.least(4), 5);
        dueCoefficients("its least", x, 5, 0, 0, 0, -1, 0);
        due("only coefficients become smaller", with(9, 9, 9, 99, 99).least(0), 1);
        CurveFalls all = with(9, 9, 9, 99, 99);
        all.least(0);
        dueCoefficients("least of the greatest", all, 1, 1, -1, 1, -146, 649);
        due("curve", x.least(6), -1);
        due("curve -1", x.least(-1), -1);
        due("curve MIN", x.least(LOW), -1);
        due("a row that is full", full().least(0), -1);
        int[][] leasts = {{0, -1, 0}, {0, 0, 0}, {0, 1, 0}, {1, -1, 0}, {1, 0, 0}, {1, 1, 0},
            {0, -1, 1}, {0, 0, 1}, {0, 1, 1}, {1, -1, 1}, {1, 0, 1}, {1, 1, 1}};
        for (int[] a : leasts) {
            CurveFalls y = with(a[0], a[1], a[2], -7, 5);
            y.change(0, 7, -8, 9);
            y.least(1);
            dueCoefficients("back to the small a1, a2, a3", y, 2, a[0], a[1], a[2], -7, 5);
        }
    }

    private static void promise6Twist() {
        int[] allowed = {-10, -7, -6, -5, -3, -2, -1, 2, 3, 5, 6, 7, 10};
        long[][] due = {{0, 0, 0, -100, -250}, {0, 0, 1, -49, -86}, {0, 0, 0, -36, -54}, {0, 0, 0, -400, -2000},
            {0, 0, 1, -9, -7}, {0, 0, 0, -4, -2}, {0, 0, 0, -16, -16}, {0, 0, 0, -4, 2}, {0, 0, 0, -144, 432},
            {0, 0, 1, -25, 31}, {0, 0, 0, -36, 54}, {0, 0, 0, -784, 5488}, {0, 0, 0, -100, 250}};
        CurveFalls x = with(0, 0, 1, -1, 0);
        for (int i = 0; i < allowed.length; i++) {
            due("twist by " + allowed[i], x.twist(0, allowed[i]), i + 1);
            dueCoefficients("twist by " + allowed[i], x, i + 1, due[i]);
        }
        for (int d : new int[] {0, 1, 4, -4, 8, -8, 9, -9, 11, -11, LOW, HIGH}) {
            due("twist by " + d, x.twist(0, d), -1);
        }
        due("DISC 2368000000 has none", x.twist(4, 2), -1);
        due("DISC 1726272 has one", x.twist(3, 2), 14);
        due("curve", x.twist(15, 2), -1);
        due("curve -1", x.twist(-1, 2), -1);
        due("a row that is full", full().twist(0, 2), -1);
        CurveFalls grown = with(0, -1, 1, 0, 0);
        grown.scale(0, 5, true);
        grown.scale(1, 5, true);
        due("only DISC of LEAST counts", grown.twist(2, -3), 3);
        due("TWIST of a grown one", grown.twist(0, -3), 4);
        due("is the same", grown.one(3, 4), true);
        due("twice is itself", grown.twist(4, -3), 5);
        dueCoefficients("twice is itself", grown, 5, 0, -1, 1, 0, 0);
        due("TWIST that is ONE with it", with(0, 0, 0, -1, 0).twist(0, -1), 1);
        twistBounds();
    }

    private static void twistBounds() {
        CurveFalls x = with(9, 9, 9, 99, 99);
        due("a6 too great", x.twist(0, 10), -1);
        due("a6 too great by 7", x.twist(0, -7), -1);
        due("within", x.twist(0, -3), 1);
        CurveFalls great = with(-9, 9, 9, -99, -99);
        due("DISC above 10^18 too", great.twist(0, 10), -1);
        due("DISC above 10^18 too", great.twist(0, -10), -1);
        due("greatest DISC, within", great.twist(0, -3), 1);
        due("DISC of a TWIST", great.of(1, 11), 729 * 656123328L);
        due("it has none itself", great.twist(1, -3), -1);
        CurveFalls edge = with(0, -1, 0, -83, -88);
        edge.twist(0, -2);
        due("DISC 2000000000", edge.of(1, 11), 2000000000);
        due("has a TWIST", edge.twist(1, -2), 2);
        dueCoefficients("which is the first", edge, 2, 0, -1, 0, -83, -88);
        long[][] conductors = {{1, 1600}, {-1, 1600}, {2, 400}, {-2, 200}, {3, 14400}, {-3, 14400}, {5, 1600}, {-5, 1600},
            {6, 1800}, {-6, 3600}, {7, 78400}, {-7, 78400}, {10, 400}, {-10, 200}};
        for (long[] row : conductors) {
            due("twisted by " + row[0], edge.twisted(1, (int) row[0]), row[1]);
        }
        due("best: -2 before -10", edge.best(1), -2);
        CurveFalls above = with(1, 1, 1, -21, -59);
        above.twist(0, -1);
        due("DISC -2000003072", above.of(1, 11), -2000003072);
        due("has no TWIST", above.twist(1, -1), -1);
        due("has no TWIST", above.twisted(1, -1), 0);
        due("has no TWIST, by 1 too", above.twisted(1, 1), 0);
        due("has no best", above.best(1), 0);
    }

    private static void promise7Drop() {
        CurveFalls x = with(0, 0, 1, -1, 0);
        x.curve(0, -1, 1, 0, 0);
        x.curve(0, 0, 0, -1, 0);
        due("drop", x.drop(), 2);
        dueNoSuchElement("it is gone", () -> x.of(2, 0));
        due("those ahead stay", x.conductor(1), 11);
        due("its number comes again", x.curve(0, 0, 0, 0, 1), 2);
        due("with the new one's answers", x.conductor(2), 36);
        due("with the new one's points", x.small(2), 5);
        due("drop", x.drop(), 2);
        due("with the newest one's points", x.curve(0, 0, 0, -1, 0), 2);
        due("with the newest one's points", x.small(2), 3);
        due("drop", x.drop(), 2);
        due("drop", x.drop(), 1);
        due("drop the last", x.drop(), 0);
        due("drop of none", x.drop(), -1);
        due("again", x.drop(), -1);
        due("count", x.count(0), 0);
        CurveFalls f = full();
        due("drop of 16", f.drop(), 15);
        due("room again", f.curve(0, 0, 0, -1, 0), 15);
        due("no more", f.curve(0, 0, 0, -1, 0), -1);
    }

    private static void promise8Of() {
        CurveFalls x = with(1, 2, 3, 4, 5);
        dueCoefficients("of", x, 0, 1, 2, 3, 4, 5, 9, 11, 29, 35, -183, -3429, -10351);
        CurveFalls y = with(-2, 3, -5, 7, -11);
        dueCoefficients("of", y, 0, -2, 3, -5, 7, -11, 16, 24, -19, -220, -320, 13832, -129683);
        for (int what : new int[] {-1, 12, 13, LOW, HIGH}) {
            dueNoSuchElement("of what " + what, () -> x.of(0, what));
        }
        for (int curve : new int[] {-1, 1, 16, LOW, HIGH}) {
            dueNoSuchElement("of curve " + curve, () -> x.of(curve, 0));
        }
    }

    private static void dueAt(String call, CurveFalls x, int curve, int p, int... want) {
        for (int what = 0; what < want.length; what++) {
            due(call + " at " + p + ", " + what, x.at(curve, p, what), want[what]);
        }
    }

    // a1, a2, a3, a4, a6, p, then what 0 to 7.
    private static final int[][] FALLS = {
        {0, 0, 1, 0, 0, 2, 0, 0, 0, 1, 1, 0, 0, 0},
        {0, 0, 1, 0, 0, 999983, 0, 0, 0, 1, 1, 0, 0, 0},
        {1, 0, 1, 0, 0, 2, 1, 1, 1, 1, 1, 1, 0, 0},
        {1, 0, 0, 0, -2, 2, 1, 1, 1, 1, 1, 1, 1, 0},
        {1, 0, 1, 0, -2, 2, 1, 4, 1, 4, 2, 4, 0, 0},
        {1, 0, 0, -4, 0, 2, 1, 4, 1, 4, 4, 4, 1, 0},
        {1, 0, 1, 3, 0, 2, 1, 3, 1, 3, 1, 3, 0, 0},
        {0, 4, 0, -3, 10, 2, 1, 2, 1, 2, 2, 2, 0, 1},
        {0, -1, 0, 7, 0, 3, 1, 3, 1, 3, 1, 3, 0, 0},
        {1, 0, 0, -1, 2, 3, 1, 3, 1, 3, 3, 3, 1, 0},
        {0, -1, 0, -9, 0, 3, 1, 4, 1, 4, 2, 4, 0, 0},
        {0, -1, 1, -10, -20, 11, 1, 5, 1, 5, 5, 5, 1, 0},
        {0, 0, 1, -1, 0, 37, 1, 1, 1, 1, 1, 1, 0, 0},
        {0, 0, 0, 0, -1, 2, 2, 0, 4, 1, 1, 4, 0, 0},
        {0, 0, 1, 0, 0, 3, 2, 0, 3, 1, 1, 3, 0, 0},
        {0, 0, 1, 0, 1, 5, 2, 0, 2, 1, 1, 2, 0, 0},
        {0, 0, 0, 16, 0, 2, 2, 0, 6, 1, 1, 6, 0, 1},
        {0, 0, 0, -1, 0, 2, 3, 0, 5, 2, 2, 6, 0, 0},
        {0, 0, 0, 0, -1, 3, 3, 0, 2, 2, 2, 3, 0, 0},
        {0, 0, 0, -7, 0, 7, 3, 0, 2, 2, 2, 3, 0, 0},
        {0, 0, 0, 0, -3, 2, 4, 0, 2, 3, 1, 4, 0, 0},
        {0, 0, 0, 0, 1, 2, 4, 0, 2, 3, 3, 4, 0, 0},
        {0, 0, 0, 0, -9, 3, 4, 0, 5, 3, 1, 7, 0, 0},
        {0, 0, 1, 0, 2, 3, 4, 0, 5, 3, 3, 7, 0, 0},
        {0, 9, 0, 2, 2, 5, 4, 0, 2, 3, 1, 4, 0, 0},
        {0, 0, 1, 0, 6, 5, 4, 0, 2, 3, 3, 4, 0, 0},
        {0, 0, 0, 1, -6, 2, 5, 0, 4, 5, 1, 8, 0, 0},
        {0, 0, 0, 0, -4, 2, 5, 0, 4, 5, 2, 8, 0, 0},
        {0, 0, 1, -3, -5, 3, 5, 0, 2, 5, 1, 6, 0, 0},
        {0, 0, 0, 9, 0, 3, 5, 0, 2, 5, 2, 6, 0, 0},
        {0, 0, 0, -9, 0, 3, 5, 0, 2, 5, 4, 6, 0, 0},
        {0, -1, 1, 33, -8, 7, 5, 0, 2, 5, 1, 6, 0, 0},
        {0, 0, 0, 49, 0, 7, 5, 0, 2, 5, 2, 6, 0, 0},
        {0, 0, 0, -49, 0, 7, 5, 0, 2, 5, 4, 6, 0, 0},
        {0, 0, 0, 4, 4, 2, 6, 1, 3, 6, 2, 8, 0, 0},
        {0, 0, 0, 1, 2, 2, 6, 1, 3, 6, 4, 8, 0, 0},
        {0, 0, 0, 12, 0, 2, 6, 2, 6, 7, 2, 12, 0, 0},
        {0, 0, 0, -4, 0, 2, 6, 2, 6, 7, 4, 12, 0, 0},
        {0, 0, 0, 20, 0, 2, 6, 3, 5, 8, 2, 12, 0, 0},
        {0, 0, 0, 4, 0, 2, 6, 3, 5, 8, 4, 12, 0, 0},
        {0, 1, 0, 0, -12, 2, 6, 4, 4, 9, 4, 12, 0, 0},
        {1, -1, 0, 0, -5, 3, 6, 1, 2, 6, 2, 7, 0, 0},
        {0, 0, 0, 6, -7, 3, 6, 1, 2, 6, 4, 7, 0, 0},
        {1, -1, 0, 9, 0, 3, 6, 2, 2, 7, 2, 8, 0, 0},
        {0, 3, 0, -18, 0, 3, 6, 2, 2, 7, 4, 8, 0, 0},
        {0, 9, 1, 42, -27, 3, 6, 5, 2, 10, 2, 11, 0, 0},
        {1, 9, 0, -97, -74, 5, 6, 3, 2, 8, 2, 9, 0, 0},
        {0, 0, 0, 0, -12, 2, 7, 0, 2, 7, 1, 8, 0, 0},
        {0, 0, 0, 0, 4, 2, 7, 0, 2, 7, 3, 8, 0, 0},
        {0, 9, 1, 0, -7, 3, 7, 0, 4, 7, 1, 10, 0, 0},
        {0, 0, 1, 0, -7, 3, 7, 0, 3, 7, 3, 9, 0, 0},
        {0, 8, 1, 63, -38, 5, 7, 0, 2, 7, 1, 8, 0, 0},
        {1, 2, 0, -53, 18, 5, 7, 0, 2, 7, 3, 8, 0, 0},
        {0, 0, 0, -8, 0, 2, 8, 0, 8, 8, 2, 15, 0, 0},
        {0, 0, 0, -27, 0, 3, 8, 0, 2, 8, 2, 9, 0, 0},
        {0, 4, 0, -78, 7, 5, 8, 0, 2, 8, 2, 9, 0, 0},
        {0, 0, 0, 0, -16, 2, 9, 0, 4, 9, 1, 12, 0, 0},
        {0, 0, 1, -27, -7, 3, 9, 0, 3, 9, 1, 11, 0, 0},
        {0, 0, 0, -64, 0, 2, 6, 2, 6, 7, 4, 12, 0, 1}};

    private static void promise9At() {
        for (int[] fall : FALLS) {
            CurveFalls x = with(fall[0], fall[1], fall[2], fall[3], fall[4]);
            x.change(0, 3, -5, 7);
            for (int curve = 0; curve < 2; curve++) {
                for (int what = 0; what < 8; what++) {
                    due("at " + java.util.Arrays.toString(fall) + " what " + what, x.at(curve, fall[5], what), fall[6 + what]);
                }
            }
        }
        CurveFalls grown = with(0, 0, 1, 0, 0);
        grown.scale(0, 9, true);
        due("SHRUNK twice", grown.at(1, 3, 7), 2);
        due("n of LEAST", grown.at(1, 3, 5), 3);
        due("KIND of LEAST", grown.at(1, 3, 0), 2);
        due("not at 2", grown.at(1, 2, 7), 0);
        atWrong();
    }

    private static void atWrong() {
        CurveFalls x = with(0, -1, 1, 0, 0);
        for (int p : new int[] {LOW, -11, -2, -1, 0, 1, 4, 6, 9, 25, 35, 49, 121, 999981, 999984, 1000003, HIGH}) {
            for (int what = 0; what < 8; what++) {
                due("at p " + p, x.at(0, p, what), -1);
            }
        }
        for (int what : new int[] {LOW, -1, 8, HIGH}) {
            due("at what " + what, x.at(0, 11, what), -1);
        }
        for (int curve : new int[] {LOW, -1, 1, HIGH}) {
            due("at curve " + curve, x.at(curve, 11, 0), -1);
        }
        due("a prime of DISC, but above 999983", with(7, 7, 7, 90, 11).at(0, 7215167, 0), -1);
    }

    private static void promise10Prime() {
        CurveFalls x = with(9, 9, 9, 99, 99);
        int[] primes = {2, 3, 6113};
        due("how many", x.prime(0, -1), primes.length);
        for (int i = 0; i < primes.length; i++) {
            due("prime " + i, x.prime(0, i), primes[i]);
        }
        due("behind all", x.prime(0, primes.length), -1);
        for (int i : new int[] {LOW, -2, 16, HIGH}) {
            due("prime " + i, x.prime(0, i), -1);
        }
        for (int curve : new int[] {LOW, -1, 1, HIGH}) {
            due("curve", x.prime(curve, 0), -1);
            due("curve", x.prime(curve, -1), -1);
        }
        due("2 and 3 alone", with(0, 0, 0, 0, 1).prime(0, -1), 2);
        due("none behind 2", with(0, 0, 0, -1, 0).prime(0, 1), -1);
        due("a great prime", with(7, 7, 7, 90, 11).prime(0, 1), 7215167);
        CurveFalls grown = with(0, 0, 1, -1, 0);
        due("one prime", grown.prime(0, -1), 1);
        due("37", grown.prime(0, 0), 37);
        grown.scale(0, 6, true);
        due("of DISC, not of LEAST", grown.prime(1, -1), 3);
        due("2", grown.prime(1, 0), 2);
        due("3", grown.prime(1, 1), 3);
        due("37", grown.prime(1, 2), 37);
        grown.drop();
        grown.curve(0, -1, 1, 0, 0);
        due("of the new one", grown.prime(1, 0), 11);
    }

    private static void promise11Conductor() {
        int[][] known = {{0, -1, 1, 0, 0, 11}, {0, -1, 1, -10, -20, 11}, {1, 0, 1, 4, -6, 14}, {1, 1, 1, -10, -10, 15},
            {0, 0, 1, -1, 0, 37}, {0, 1, 1, 0, 0, 43}, {0, 0, 0, -1, 0, 32}, {0, 0, 0, 0, 1, 36}, {0, 0, 1, 0, 0, 27},
            {1, -1, 0, -2, -1, 49}, {0, 1, 1, -2, 0, 389}, {0, 0, 1, -7, 6, 5077}, {0, 0, 0, -25, 0, 800},
            {0, 0, 0, 0, 2, 1728}, {0, 0, 0, 2, 0, 256}, {-9, 9, 9, -99, -99, 46494}};
        for (int[] a : known) {
            CurveFalls x = with(a[0], a[1], a[2], a[3], a[4]);
            x.change(0, -3, 2, 5);
            x.scale(0, 2, true);
            for (int curve = 0; curve < x.count(0); curve++) {
                due("conductor", x.conductor(curve), a[5]);
            }
        }
        CurveFalls x = with(0, -1, 1, 0, 0);
        for (int curve : new int[] {LOW, -1, 1, 16, HIGH}) {
            due("conductor of none", x.conductor(curve), 0);
        }
        due("with a prime above 999983", with(7, 7, 7, 90, 11).conductor(0), 14430334);
    }

    private static void promise12LeastOf() {
        CurveFalls x = with(1, 2, 3, 4, 5);
        x.scale(0, 4, true);
        x.change(0, 5, -4, 3);
        long[] due = {1, -1, 0, 4, 3, -3, 8, 12, -25, -183, -3429, -10351};
        long[] scales = {1, 4, 1};
        for (int curve = 0; curve < 3; curve++) {
            for (int what = 0; what < 12; what++) {
                due("leastOf " + what, x.leastOf(curve, what), due[what]);
            }
            due("SCALE", x.leastOf(curve, 12), scales[curve]);
        }
        CurveFalls y = with(0, 0, 0, -16, 0);
        due("SCALE", y.leastOf(0, 12), 2);
        due("a4", y.leastOf(0, 3), -1);
        due("DISC", y.leastOf(0, 11), 64);
        due("nothing is added", y.count(0), 1);
        for (int what : new int[] {LOW, -1, 13, HIGH}) {
            dueNoSuchElement("leastOf what", () -> x.leastOf(0, what));
        }
        for (int curve : new int[] {LOW, -1, 3, HIGH}) {
            dueNoSuchElement("leastOf curve", () -> x.leastOf(curve, 0));
        }
    }

    private static void promise13One() {
        CurveFalls x = with(0, 0, 0, -1, 0);
        x.change(0, 1, 2, 3);
        x.scale(1, 3, true);
        x.curve(0, 0, 0, 1, 0);
        x.curve(0, 0, 0, -16, 0);
        x.curve(0, 0, 0, -4, 0);
        x.curve(0, -1, 1, 0, 0);
        x.curve(0, -1, 1, -10, -20);
        boolean[][] due = new boolean[8][8];
        for (int[] group : new int[][] {{0, 1, 2, 4}, {3}, {5}, {6}, {7}}) {
            for (int i : group) {
                for (int j : group) {
                    due[i][j] = true;
                }
            }
        }
        for (int i = 0; i < 8; i++) {
            for (int j = 0; j < 8; j++) {
                due("one " + i + ", " + j, x.one(i, j), due[i][j]);
            }
        }
        for (int none : new int[] {LOW, -1, 8, HIGH}) {
            due("one of none", x.one(none, 0), false);
            due("one of none", x.one(0, none), false);
            due("one of none", x.one(none, none), false);
        }
    }

    private static void promise14Points() {
        CurveFalls x = with(0, -1, 1, 0, 0);
        int[][] due = {{2, 5}, {3, 5}, {5, 5}, {7, 10}, {11, 11}, {13, 10}, {197, 200}, {199, 200}};
        for (int[] row : due) {
            due("points at " + row[0], x.points(0, row[0]), row[1]);
        }
        x.scale(0, 2, true);
        due("of the CURVE, not of LEAST, at 2", x.points(1, 2), 3);
        due("grown, at 3", x.points(1, 3), 5);
        due("negative coefficients", with(-9, -9, -9, -99, -99).points(0, 7), 8);
        due("a cusp", with(0, 0, 0, 0, 5).points(0, 5), 6);
        for (int p : new int[] {LOW, -7, -2, 0, 1, 4, 9, 15, 169, 198, 200, 211, HIGH}) {
            due("points at " + p, x.points(0, p), -1);
        }
        for (int curve : new int[] {LOW, -1, 2, HIGH}) {
            due("points of none", x.points(curve, 2), -1);
        }
    }

    private static void promise15Trace() {
        CurveFalls x = with(0, -1, 1, 0, 0);
        int[][] due = {{2, -2}, {3, -1}, {5, 1}, {7, -2}, {11, 1}, {13, 4}, {17, -2}, {19, 0}, {23, -1}, {29, 0}, {31, 7},
            {197, -2}, {199, 0}};
        x.scale(0, 6, true);
        x.change(0, 2, 3, 4);
        for (int[] row : due) {
            for (int curve = 0; curve < 3; curve++) {
                due("trace at " + row[0], x.trace(curve, row[0]), row[1]);
            }
        }
        due("a node that is not split", with(0, 0, 1, -1, 0).trace(0, 37), -1);
        due("neither good nor a node", with(0, 0, 0, -1, 0).trace(0, 2), 0);
        for (int p : new int[] {LOW, -7, -2, 0, 1, 4, 6, 9, 169, 200, 211, HIGH}) {
            due("trace at " + p, x.trace(0, p), -1000);
        }
        for (int curve : new int[] {LOW, -1, 3, HIGH}) {
            due("trace of none", x.trace(curve, 2), -1000);
        }
    }

    private static void promise16Own() {
        due("11a1", with(0, -1, 1, -10, -20).own(0), 5);
        due("11a3", with(0, -1, 1, 0, 0).own(0), 1);
        due("15a1", with(1, 1, 1, -10, -10).own(0), 8);
        due("36a1", with(0, 0, 0, 0, 1).own(0), 6);
        due("800", with(0, 0, 0, -25, 0).own(0), 8);
        CurveFalls x = with(0, 0, 0, -25, 0);
        x.scale(0, 3, true);
        due("grown", x.own(1), 8);
        for (int curve : new int[] {LOW, -1, 2, HIGH}) {
            due("own of none", x.own(curve), -1);
        }
    }

    private static void promise17Best() {
        due("itself", with(0, 0, 1, -1, 0).best(0), 1);
        due("by 5", with(0, 0, 0, -25, 0).best(0), 5);
        CurveFalls x = with(0, 0, 1, -1, 0);
        int[] small = {-10, -7, -6, -3, -2, -1, 2, 3, 5, 6, 10};
        for (int d : small) {
            int k = x.twist(0, d);
            due("back by " + d, x.best(k), d);
            x.drop();
        }
        due("without TWIST", x.best(x.twist(0, -5)), 0);
        due("without TWIST", x.best(x.twist(0, 7)), 0);
        due("equal ones: 1 before -1", with(0, 0, 0, -1, 0).best(0), 1);
        due("equal ones: 2 before -2", with(0, 0, 0, -4, 0).best(0), 2);
        for (int curve : new int[] {LOW, -1, 3, HIGH}) {
            due("best of none", x.best(curve), 0);
        }
    }

    private static void promise18Twisted() {
        CurveFalls x = with(0, -1, 1, 0, 0);
        long[][] due = {{1, 11}, {-1, 176}, {2, 704}, {-2, 704}, {3, 1584}, {-3, 99}, {5, 275}, {-5, 4400}, {6, 6336},
            {-6, 6336}, {7, 8624}, {-7, 539}, {10, 17600}, {-10, 17600}};
        x.scale(0, 5, true);
        for (long[] row : due) {
            due("twisted by " + row[0], x.twisted(0, (int) row[0]), row[1]);
            due("grown, twisted by " + row[0], x.twisted(1, (int) row[0]), row[1]);
        }
        for (int d : new int[] {LOW, -11, -9, -8, -4, 0, 4, 8, 9, 11, HIGH}) {
            due("twisted by " + d, x.twisted(0, d), 0);
        }
        due("nothing is added", x.count(0), 2);
        due("a full row has them too", full().twisted(0, -3), 333);
        CurveFalls great = with(-9, 9, 9, -99, -99);
        due("whatever coefficients", great.twisted(0, 10), 37195200);
        due("whatever coefficients", great.twisted(0, 7), 2603664);
        CurveFalls none = with(0, 0, 1, -1, 0);
        int k = none.twist(0, -5);
        due("without TWIST", none.twisted(k, -5), 0);
        due("without TWIST, by 1 too", none.twisted(k, 1), 0);
        due("which has a CONDUCTOR", none.conductor(k), 14800);
        due("changed, by 1", none.twisted(none.change(k, 1, 0, 0), 1), 0);
        none.scale(0, 9, true);
        due("only DISC of LEAST is asked for", none.twisted(none.count(0) - 1, 1), 37);
        for (int curve : new int[] {LOW, -1, 2, HIGH}) {
            due("twisted of none", x.twisted(curve, 1), 0);
            due("twisted of none", x.twisted(curve, 2), 0);
        }
    }

    private static void promise19Small() {
        due("11a3", with(0, -1, 1, 0, 0).small(0), 4);
        due("36a1", with(0, 0, 0, 0, 1).small(0), 5);
        due("none", with(0, 0, 0, 0, -5).small(0), 0);
        due("5077", with(0, 0, 1, -7, 6).small(0), 28);
        CurveFalls x = with(0, 0, 0, -55, 51);
        due("x 7, 14, 15", x.small(0), 6);
        x.change(0, -46, 0, 0);
        due("x 53, 60, but not 61", x.small(1), 4);
        due("the last is 60", x.point(1, 3, 0), 60);
        CurveFalls y = with(7, -3, -9, -60, -98);
        due("x -15, -14", y.small(0), 4);
        y.change(0, 46, 0, 0);
        due("x -60, but not -61", y.small(1), 2);
        due("the first is -60", y.point(1, 0, 0), -60);
        for (int curve : new int[] {LOW, -1, 2, HIGH}) {
            due("small of none", x.small(curve), -1);
        }
    }

    private static void promise20Point() {
        CurveFalls x = with(0, 0, 0, 0, 1);
        int[][] due = {{-1, 0}, {0, -1}, {0, 1}, {2, -3}, {2, 3}};
        for (int i = 0; i < due.length; i++) {
            due("x", x.point(0, i, 0), due[i][0]);
            due("y", x.point(0, i, 1), due[i][1]);
        }
        for (int i : new int[] {LOW, -1, 5, 242, HIGH}) {
            dueNoSuchElement("point " + i, () -> x.point(0, i, 0));
        }
        for (int what : new int[] {LOW, -1, 2, HIGH}) {
            dueNoSuchElement("point what", () -> x.point(0, 0, what));
        }
        for (int curve : new int[] {LOW, -1, 1, HIGH}) {
            dueNoSuchElement("point of none", () -> x.point(curve, 0, 0));
        }
        x.change(0, 0, 99, 99);
        x.change(1, 0, 99, 99);
        due("great y", x.point(2, 4, 0), 2);
        due("great y", x.point(2, 4, 1), 3 - 2 * 198 - 198);
        due("the first one's still", x.point(0, 4, 1), 3);
        dueNoSuchElement("no points at all", () -> with(0, 0, 0, 0, -5).point(0, 0, 0));
    }

    private static void promise21Minus() {
        CurveFalls x = with(0, 0, 0, 0, 1);
        int[] due = {0, 2, 1, 4, 3};
        for (int i = 0; i < due.length; i++) {
            due("minus " + i, x.minus(0, i), due[i]);
        }
        for (int i : new int[] {LOW, -1, 5, HIGH}) {
            due("minus " + i, x.minus(0, i), -1);
        }
        for (int curve : new int[] {LOW, -1, 1, HIGH}) {
            due("minus of none", x.minus(curve, 0), -1);
        }
        CurveFalls y = with(1, 2, 3, 4, 5);
        for (int i = 0; i < y.small(0); i++) {
            int j = y.minus(0, i);
            due("x stays", y.point(0, j, 0), y.point(0, i, 0));
            due("y", y.point(0, j, 1), -y.point(0, i, 1) - y.point(0, i, 0) - 3);
        }
        due("it has some", y.small(0) > 0, true);
    }

    private static void promise22Count() {
        CurveFalls x = with(0, -1, 1, 0, 0);
        x.change(0, 1, 2, 3);
        x.scale(0, 3, true);
        x.curve(0, 0, 0, -1, 0);
        x.curve(0, 0, 0, -16, 0);
        x.curve(0, 0, 0, 1, 0);
        x.curve(0, 0, 0, -1, 0);
        due("CURVES", x.count(0), 7);
        due("unlike", x.count(1), 3);
        due("LEAST for all", x.count(2), 0b1101001);
        due("LEAST at each p", x.count(3), 0b1101011);
        for (int what : new int[] {LOW, -1, 4, HIGH}) {
            due("count " + what, x.count(what), -1);
        }
        due("bits of 16", full().count(2), 65535);
        due("bits of 16", full().count(3), 65535);
        due("16 that are one", full().count(1), 1);
        due("a2 2 is not LEAST for all", with(0, 2, 0, 1, 1).count(2), 0);
        due("but LEAST at each p", with(0, 2, 0, 1, 1).count(3), 1);
    }
}
