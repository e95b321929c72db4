import java.util.NoSuchElementException;

/** What the tests of the promises share: answers beside those that are due, counted. */
abstract class Checks {
    static final int LOW = Integer.MIN_VALUE;
    static final int HIGH = Integer.MAX_VALUE;
    /** Stands for a NoSuchElementException among answers. */
    static final long THROWN = Long.MIN_VALUE;

    private static int wrong = 0;
    private static int checked = 0;

    interface Call {
        long answer();
    }

    interface Maker {
        CurveFalls make();
    }

    interface Asked {
        long of(CurveFalls x);
    }

    static void finish() {
        System.out.println(checked + " answers looked at, " + wrong + " wrong");
        if (wrong != 0 || checked == 0) {
            System.exit(1);
        }
    }

    static void due(String call, long got, long want) {
        checked++;
        if (got != want) {
            wrong++;
            System.out.println(call + " answered " + word(got) + ", due is " + word(want));
        }
    }

    static void due(String call, boolean got, boolean want) {
        due(call, got ? 1 : 0, want ? 1 : 0);
    }

    static void dueNoSuchElement(String call, Call made) {
        due(call, answer(x -> made.answer(), null), THROWN);
    }

    static void dueCoefficients(String call, CurveFalls x, int curve, long... want) {
        for (int what = 0; what < want.length; what++) {
            due(call + ": of " + what, x.of(curve, what), want[what]);
        }
    }

    /**
     * The call has this answer, by which it is refused, and behind it the object answers as one that
     * was never asked.
     */
    static void dueRefused(String call, Maker maker, Asked asked, long want) {
        CurveFalls x = maker.make();
        String before = state(maker.make());
        due(call, answer(asked, x), want);
        String after = state(x);
        checked++;
        if (!after.equals(before)) {
            wrong++;
            System.out.println(call + " was refused, but the object answers " + after + ", before it " + before);
        }
    }

    static long answer(Asked asked, CurveFalls x) {
        try {
            return asked.of(x);
        } catch (NoSuchElementException thrown) {
            return THROWN;
        }
    }

    private static String word(long answer) {
        return answer == THROWN ? "NoSuchElementException" : String.valueOf(answer);
    }

    /** With 16 CURVES these are 276 calls: an object may be asked this once within its 512. */
    private static String state(CurveFalls x) {
        StringBuilder told = new StringBuilder();
        for (int what = 0; what < 4; what++) {
            told.append(x.count(what)).append(' ');
        }
        for (int curve = 0; curve < x.count(0); curve++) {
            for (int what = 0; what < 12; what++) {
                told.append(x.of(curve, what)).append(' ');
            }
            told.append(x.leastOf(curve, 12)).append(' ').append(x.prime(curve, -1)).append(' ');
            told.append(x.conductor(curve)).append(' ').append(x.small(curve)).append("; ");
        }
        return told.toString();
    }

    static CurveFalls with(int a1, int a2, int a3, int a4, int a6) {
        CurveFalls x = new CurveFalls();
        due("curve", x.curve(a1, a2, a3, a4, a6), 0);
        return x;
    }

    static CurveFalls full() {
        CurveFalls x = new CurveFalls();
        for (int i = 0; i < 16; i++) {
            due("curve of a full row", x.curve(0, 0, 1, -1, 0), i);
        }
        return x;
    }
}
