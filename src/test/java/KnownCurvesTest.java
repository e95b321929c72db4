import java.nio.file.Files;
import java.nio.file.Path;
import java.util.List;

/**
 * CURVES and TWISTS of every kind, against answers that another program (PARI/GP) gave.
 * A row of the file: a1 a2 a3 a4 a6 d : LEAST for all, SCALE : CONDUCTOR, own : TRACE at 2, 3, 5, 7, 11, 13,
 * then for every prime in DISC that at() takes: p, what 0 to 7. The CURVE is the TWIST if d is not 1.
 */
public final class KnownCurvesTest {
    private static final int[] TRACED = {2, 3, 5, 7, 11, 13};
    private static int wrong = 0;

    public static void main(String[] args) throws Exception {
        List<String> rows = Files.readAllLines(Path.of("src/test/data/known-curves.txt"));
        for (String row : rows) {
            check(row);
        }
        System.out.println(rows.size() + " known curves, " + wrong + " wrong answers");
        if (wrong != 0 || rows.isEmpty()) {
            System.exit(1);
        }
    }

    private static void check(String row) {
        String[] groups = row.split(" : ");
        long[] made = numbers(groups[0]);
        CurveFalls curves = new CurveFalls();
        curves.curve((int) made[0], (int) made[1], (int) made[2], (int) made[3], (int) made[4]);
        int d = (int) made[5];
        int k = d == 1 ? 0 : curves.twist(0, d);
        long[] least = numbers(groups[1]);
        int[] whats = {0, 1, 2, 3, 4, 12};
        for (int i = 0; i < whats.length; i++) {
            due(row, "leastOf " + whats[i], curves.leastOf(k, whats[i]), least[i]);
        }
        long[] all = numbers(groups[2]);
        due(row, "conductor", curves.conductor(k), all[0]);
        due(row, "twisted", curves.twisted(0, d), all[0]);
        due(row, "own", curves.own(k), all[1]);
        long[] traces = numbers(groups[3]);
        for (int i = 0; i < TRACED.length; i++) {
            due(row, "trace " + TRACED[i], curves.trace(k, TRACED[i]), traces[i]);
        }
        for (int g = 4; g < groups.length; g++) {
            long[] local = numbers(groups[g]);
            due(row, "prime " + (g - 4), curves.prime(k, g - 4), local[0]);
            for (int what = 0; what < 8; what++) {
                due(row, "at " + local[0] + ", " + what, curves.at(k, (int) local[0], what), local[what + 1]);
            }
        }
    }

    private static long[] numbers(String group) {
        String[] words = group.split(" ");
        long[] numbers = new long[words.length];
        for (int i = 0; i < words.length; i++) {
            numbers[i] = Long.parseLong(words[i]);
        }
        return numbers;
    }

    private static void due(String row, String what, long got, long want) {
        if (got != want) {
            wrong++;
            System.out.println(row + ": " + what + " answered " + got + ", due is " + want);
        }
    }
}
