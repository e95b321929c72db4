import java.lang.management.ManagementFactory;

/** What an object and its calls take of the one room: little when it is made, nothing after that. */
public final class RoomTest {
    private static final long MOST_NEW = 32768;
    private static final long MOST_CALLS = 4096;

    public static void main(String[] args) {
        com.sun.management.ThreadMXBean threads = (com.sun.management.ThreadMXBean) ManagementFactory.getThreadMXBean();
        long thread = Thread.currentThread().getId();
        use(new CurveFalls());
        long before = threads.getThreadAllocatedBytes(thread);
        CurveFalls curves = new CurveFalls();
        long made = threads.getThreadAllocatedBytes(thread);
        use(curves);
        long used = threads.getThreadAllocatedBytes(thread);
        System.out.println("a new object: " + (made - before) + " bytes, its calls: " + (used - made) + " bytes");
        if (made - before > MOST_NEW || used - made > MOST_CALLS) {
            System.exit(1);
        }
    }

    private static void use(CurveFalls curves) {
        long seed = 12345;
        for (int i = 0; i < 500; i++) {
            seed = seed * 6364136223846793005L + 1442695040888963407L;
            int n = (int) (seed >>> 40);
            int k = n % 16;
            if (curves.count(0) < 12) {
                curves.curve(n % 10, n % 7, n % 5, n % 97, n % 89);
            }
            switch (i % 16) {
                case 0: curves.change(k, n % 50, n % 9, n % 40); break;
                case 1: curves.scale(k, 2 + n % 8, true); break;
                case 2: curves.scale(k, 2 + n % 8, false); break;
                case 3: curves.least(k); break;
                case 4: curves.twist(k, n % 11); break;
                case 5: curves.drop(); break;
                case 6: curves.at(k, 2, n % 8); break;
                case 7: curves.prime(k, 0); break;
                case 8: curves.conductor(k); break;
                case 9: curves.one(k, 0); break;
                case 10: curves.points(k, 199); break;
                case 11: curves.trace(k, 197); break;
                case 12: curves.own(k); break;
                case 13: curves.best(k); break;
                case 14: curves.small(k); curves.minus(k, 0); break;
                default: curves.count(n % 4);
            }
        }
    }
}
