import java.lang.reflect.InvocationTargetException;
import java.lang.reflect.Method;
import java.util.ArrayList;
import java.util.Arrays;
import java.util.Comparator;
import java.util.List;
import java.util.Random;

/** Runs of 512 calls with seeded arguments, wrong ones among them: every answer must be Reference's. */
public final class RandomRunsTest {
    private static final int RUNS = 60;
    private static final int CALLS = 512;
    private static final int[] GREAT = {Integer.MIN_VALUE, Integer.MIN_VALUE + 1, -1000001, 1000003, Integer.MAX_VALUE};
    private static final int[] RICH = {0, 0, 0, 1, -1, 2, -2, 3, -3, 4, 5, 6, 7, -7, 8, 9, -9};
    private static final int[] RICH_HIGH = {0, 0, 1, -1, 2, 3, 4, 8, -8, 9, 16, -16, 18, 25, -25, 27, -27, 32, 48, 49, 54, 64, -64, 81, 96, 98};
    private static final int[] PRIMES = {2, 2, 3, 3, 5, 7, 11, 13, 17, 19, 23, 29, 31, 37, 97, 193, 197, 199, 211, 999983, 1000003};

    private final Random random;
    private final Object tested;
    private final Object reference;
    private int wrong = 0;

    private RandomRunsTest(long seed) throws Exception {
        random = new Random(seed);
        tested = Class.forName("CurveFalls").getConstructor().newInstance();
        reference = new Reference();
    }

    public static void main(String[] args) throws Exception {
        int wrong = 0;
        for (int run = 0; run < RUNS; run++) {
            wrong += new RandomRunsTest(1000 + run).run(run);
        }
        System.out.println(RUNS + " runs of " + CALLS + " calls, " + wrong + " wrong answers");
        if (wrong != 0) {
            System.exit(1);
        }
    }

    private int run(int run) throws Exception {
        Method[] methods = CurveFalls.class.getDeclaredMethods();
        List<Method> face = new ArrayList<>();
        for (Method method : methods) {
            if (java.lang.reflect.Modifier.isPublic(method.getModifiers())) {
                face.add(method);
            }
        }
        face.sort(Comparator.comparing(Method::getName));
        for (int call = 0; call < CALLS && wrong == 0; call++) {
            Method method = face.get(random.nextInt(face.size()));
            if (method.getName().equals("best") && random.nextInt(4) != 0) {
                method = CurveFalls.class.getMethod("at", int.class, int.class, int.class);
            }
            if (((Reference) reference).count(0) == 16 && random.nextInt(4) == 0) {
                method = CurveFalls.class.getMethod("drop");
            }
            Object[] arguments = arguments(method);
            String due = answer(reference, Reference.class.getMethod(method.getName(), method.getParameterTypes()), arguments);
            String got = answer(tested, method, arguments);
            if (!got.equals(due)) {
                wrong++;
                System.out.println("run " + run + ", call " + call + ": " + method.getName() + Arrays.toString(arguments)
                    + " answered " + got + ", due is " + due);
            }
        }
        return wrong;
    }

    private static String answer(Object object, Method method, Object[] arguments) throws Exception {
        try {
            return String.valueOf(method.invoke(object, arguments));
        } catch (InvocationTargetException thrown) {
            return "throws." + thrown.getCause().getClass().getSimpleName();
        }
    }

    private Object[] arguments(Method method) throws Exception {
        Object[] arguments = sensible(method.getName());
        for (int i = 0; i < arguments.length; i++) {
            if (arguments[i] instanceof Integer && random.nextInt(60) == 0) {
                arguments[i] = random.nextBoolean() ? GREAT[random.nextInt(GREAT.length)] : upTo(120);
            }
        }
        return arguments;
    }

    private Object[] sensible(String name) throws Exception {
        switch (name) {
            case "curve":
                return random.nextBoolean()
                    ? new Object[] {upTo(9), upTo(9), upTo(9), upTo(99), upTo(99)}
                    : new Object[] {of(RICH), of(RICH), of(RICH), of(RICH_HIGH), of(RICH_HIGH)};
            case "change":
                int wide = random.nextBoolean() ? 99 : 9;
                return new Object[] {held(), upTo(wide), upTo(wide), upTo(wide)};
            case "scale":
                return new Object[] {held(), 1 + random.nextInt(9), random.nextInt(3) != 0};
            case "twist":
            case "twisted":
                return new Object[] {held(), upTo(11)};
            case "of":
                return new Object[] {held(), random.nextInt(13)};
            case "leastOf":
                return new Object[] {held(), random.nextInt(14)};
            case "at":
                return new Object[] {held(), someP(), random.nextInt(9)};
            case "prime":
                return new Object[] {held(), random.nextInt(6) - 1};
            case "one":
                return new Object[] {held(), held()};
            case "points":
            case "trace":
                return new Object[] {held(), random.nextBoolean() ? (Object) someP() : (Object) random.nextInt(205)};
            case "point":
                return new Object[] {held(), random.nextInt(6), random.nextInt(2)};
            case "minus":
                return new Object[] {held(), random.nextInt(6)};
            case "count":
                return new Object[] {random.nextInt(4)};
            case "drop":
                return new Object[0];
            default:
                return new Object[] {held()};
        }
    }

    private Integer of(int[] row) {
        return row[random.nextInt(row.length)];
    }

    private Integer upTo(int most) {
        return random.nextInt(2 * most + 1) - most;
    }

    private Integer held() {
        return random.nextInt(Math.max(1, ((Reference) reference).count(0)) + (random.nextInt(20) == 0 ? 1 : 0));
    }

    /** A prime of some CURVE's DISC, or a usual one. */
    private Integer someP() {
        Reference slow = (Reference) reference;
        int curve = held();
        int many = slow.prime(curve, -1);
        if (many > 0 && random.nextBoolean()) {
            return slow.prime(curve, random.nextInt(many));
        }
        return of(PRIMES);
    }
}
