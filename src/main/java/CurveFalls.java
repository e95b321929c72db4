import java.util.NoSuchElementException;

/** Cubic curves with whole coefficients, and to what each of them falls at every prime. */
public final class CurveFalls {
    public static final int NONE = -1;

    private static final int MOST_CURVES = 16;
    private static final long MOST_COEFFICIENT = 100000L;
    private static final long MOST_DISC = 1000000000000000000L;
    private static final long MOST_TWISTED_DISC = 2000000000L;
    private static final int MOST_PRIME = 999983;
    private static final int MOST_COUNTED_PRIME = 199;
    private static final int NO_TRACE = -1000;

    private static final int DISC = 11;
    private static final int SCALE = 12;

    private static final int GOOD = 0;
    private static final int NODE = 1;

    // In the order in which best() prefers equal ones: by size, then the one above 0.
    private static final int[] TWISTERS = {1, -1, 2, -2, 3, -3, 5, -5, 6, -6, 7, -7, 10, -10};

    // A TWIST can bring these into DISC, and no others.
    private static final int[] TWIST_PRIMES = {2, 3, 5, 7};

    // The twelfth power of the next prime is above the greatest DISC.
    private static final int[] SHRINK_PRIMES = {2, 3, 5, 7, 11, 13, 17, 19, 23, 29, 31};

    private final Held[] held;
    private int size;
    private final Equation draft;
    private final Fall fall;
    private final SmallPoints smallPoints;
    private int smallPointsOf;
    private final int[] squareRoots;

    public CurveFalls() {
        held = new Held[MOST_CURVES];
        for (int i = 0; i < MOST_CURVES; i++) {
            held[i] = new Held();
        }
        size = 0;
        draft = new Equation();
        fall = new Fall();
        smallPoints = new SmallPoints();
        smallPointsOf = NONE;
        squareRoots = new int[MOST_COUNTED_PRIME];
    }

    public int curve(int a1, int a2, int a3, int a4, int a6) {
        if (!within(a1, 9) || !within(a2, 9) || !within(a3, 9) || !within(a4, 99) || !within(a6, 99)) {
            return NONE;
        }
        draft.put(a1, a2, a3, a4, a6);
        return draft.disc == 0 ? NONE : keepDraft();
    }

    public int change(int curve, int r, int s, int t) {
        if (!there(curve) || !within(r, 99) || !within(s, 99) || !within(t, 99)) {
            return NONE;
        }
        draft.take(held[curve].own);
        draft.shift(r, s, t);
        return keepDraft();
    }

    public int scale(int curve, int u, boolean grown) {
        if (!there(curve) || u < 2 || u > 9) {
            return NONE;
        }
        Equation own = held[curve].own;
        if (grown) {
            // Looked at before growing: behind it DISC might have left the range of long.
            if (Math.abs(own.disc) > Numbers.quotient(MOST_DISC, Numbers.power(u, 12))) {
                return NONE;
            }
            draft.grow(own, u);
        } else {
            if (!own.canShrink(u)) {
                return NONE;
            }
            draft.shrink(own, u);
        }
        return keepDraft();
    }

    public int least(int curve) {
        if (!there(curve)) {
            return NONE;
        }
        draft.take(held[curve].least);
        return keepDraft();
    }

    public int twist(int curve, int d) {
        if (!there(curve) || !isTwister(d) || !hasTwists(curve)) {
            return NONE;
        }
        draftTwist(curve, d);
        return keepDraft();
    }

    public int drop() {
        if (size == 0) {
            return NONE;
        }
        size--;
        smallPointsOf = NONE;
        return size;
    }

    public long of(int curve, int what) throws NoSuchElementException {
        if (!there(curve) || what < 0 || what > DISC) {
            throw new NoSuchElementException();
        }
        return held[curve].own.value(what);
    }

    public int at(int curve, int p, int what) {
        if (!there(curve) || what < 0 || what > 7 || p > MOST_PRIME || !Numbers.isPrime(p)) {
            return NONE;
        }
        if (what == 7) {
            return Numbers.times(held[curve].scale, p);
        }
        fall.reckon(held[curve].least, p);
        return fall.value(what);
    }

    public int prime(int curve, int i) {
        if (!there(curve)) {
            return NONE;
        }
        Primes primes = held[curve].primesOfDisc();
        return i == NONE ? primes.many : primes.get(i);
    }

    public long conductor(int curve) {
        return there(curve) ? conductorOf(held[curve].least, held[curve].primesOfDisc()) : 0;
    }

    public long leastOf(int curve, int what) throws NoSuchElementException {
        if (!there(curve) || what < 0 || what > SCALE) {
            throw new NoSuchElementException();
        }
        return what == SCALE ? held[curve].scale : held[curve].least.value(what);
    }

    public boolean one(int curve, int other) {
        return there(curve) && there(other) && held[curve].least.isSameAs(held[other].least);
    }

    public int points(int curve, int p) {
        if (!there(curve) || !isCountedPrime(p)) {
            return NONE;
        }
        return pointsOn(held[curve].own, p);
    }

    public int trace(int curve, int p) {
        if (!there(curve) || !isCountedPrime(p)) {
            return NO_TRACE;
        }
        Equation least = held[curve].least;
        fall.reckon(least, p);
        if (fall.kind == GOOD) {
            return p + 1 - pointsOn(least, p);
        }
        if (fall.kind == NODE) {
            return fall.split ? 1 : -1;
        }
        return 0;
    }

    public long own(int curve) {
        if (!there(curve)) {
            return NONE;
        }
        Primes primes = held[curve].primesOfDisc();
        long product = 1;
        for (int i = 0; i < primes.many; i++) {
            fall.reckon(held[curve].least, primes.get(i));
            product *= fall.owned;
        }
        return product;
    }

    public int best(int curve) {
        if (!there(curve) || !hasTwists(curve)) {
            return 0;
        }
        int bestTwister = 0;
        long bestConductor = 0;
        for (int d : TWISTERS) {
            long now = twistedConductor(curve, d);
            if (bestTwister == 0 || now < bestConductor) {
                bestTwister = d;
                bestConductor = now;
            }
        }
        return bestTwister;
    }

    public long twisted(int curve, int d) {
        // By 1 too: a CURVE of which there is no TWIST is one of the others, as for best().
        if (!there(curve) || !hasTwists(curve) || (d != 1 && !isTwister(d))) {
            return 0;
        }
        return twistedConductor(curve, d);
    }

    public int small(int curve) {
        if (!there(curve)) {
            return NONE;
        }
        findSmallPoints(curve);
        return smallPoints.many;
    }

    public int point(int curve, int i, int what) throws NoSuchElementException {
        if (!hasSmallPoint(curve, i) || what < 0 || what > 1) {
            throw new NoSuchElementException();
        }
        return what == 0 ? smallPoints.xs[i] : smallPoints.ys[i];
    }

    public int minus(int curve, int i) {
        return hasSmallPoint(curve, i) ? smallPoints.opposite(held[curve].own, i) : NONE;
    }

    public int count(int what) {
        switch (what) {
            case 0:
                return size;
            case 1:
                return countUnlike();
            case 2:
                return bitsOfLeast(true);
            case 3:
                return bitsOfLeast(false);
            default:
                return NONE;
        }
    }

    private boolean there(int curve) {
        return curve >= 0 && curve < size;
    }

    private static boolean within(long value, long most) {
        return value >= -most && value <= most;
    }

    private static boolean isCountedPrime(int p) {
        return p <= MOST_COUNTED_PRIME && Numbers.isPrime(p);
    }

    private int keepDraft() {
        if (size >= MOST_CURVES || !draft.isWithinBounds()) {
            return NONE;
        }
        held[size].hold(draft);
        smallPointsOf = NONE;
        size++;
        return size - 1;
    }

    private static boolean isTwister(int d) {
        if (d == 1) {
            return false;
        }
        for (int allowed : TWISTERS) {
            if (d == allowed) {
                return true;
            }
        }
        return false;
    }

    private boolean hasTwists(int curve) {
        return within(held[curve].least.disc, MOST_TWISTED_DISC);
    }

    // These c4, c6, DISC are those of 0, d b2, 0, 8 d d b4, 16 d d d b6. They are taken from LEAST,
    // where they stay within long, and not from the CURVE, which is ONE with it.
    private void draftTwist(int curve, int d) {
        Equation least = held[curve].least;
        long square = (long) d * d;
        long sixth = square * square * square;
        Lowering.lower(16 * square * least.c4, 64 * square * d * least.c6, 4096 * sixth * least.disc, draft);
    }

    private long twistedConductor(int curve, int d) {
        if (d == 1) {
            draft.take(held[curve].least);
        } else {
            draftTwist(curve, d);
        }
        return conductorOf(draft, held[curve].primesOfDisc());
    }

    // The row may be that of the CURVE of which this is a TWIST: so the primes of TWISTS come apart.
    private long conductorOf(Equation least, Primes primes) {
        long product = 1;
        for (int p : TWIST_PRIMES) {
            fall.reckon(least, p);
            product *= Numbers.power(p, fall.exponent);
        }
        for (int i = 0; i < primes.many; i++) {
            int p = primes.get(i);
            if (p > 7) {
                fall.reckon(least, p);
                product *= Numbers.power(p, fall.exponent);
            }
        }
        return product;
    }

    private int pointsOn(Equation equation, int p) {
        if (p == 2) {
            return pointsAtTwo(equation);
        }
        for (int v = 0; v < p; v++) {
            squareRoots[v] = 0;
        }
        for (int y = 0; y < p; y++) {
            squareRoots[(int) Numbers.rest((long) y * y, p)]++;
        }
        int many = 1;
        for (int x = 0; x < p; x++) {
            many += squareRoots[(int) Numbers.rest(equation.discriminantAt(x), p)];
        }
        return many;
    }

    private static int pointsAtTwo(Equation equation) {
        int many = 1;
        for (int x = 0; x < 2; x++) {
            for (int y = 0; y < 2; y++) {
                long left = y * y + equation.slopeAt(x) * y;
                if (Numbers.rest(left - equation.rightAt(x), 2) == 0) {
                    many++;
                }
            }
        }
        return many;
    }

    private void findSmallPoints(int curve) {
        if (smallPointsOf != curve) {
            smallPoints.find(held[curve].own);
            smallPointsOf = curve;
        }
    }

    private boolean hasSmallPoint(int curve, int i) {
        if (!there(curve)) {
            return false;
        }
        findSmallPoints(curve);
        return i >= 0 && i < smallPoints.many;
    }

    private int countUnlike() {
        int unlike = 0;
        for (int i = 0; i < size; i++) {
            boolean seen = false;
            for (int j = 0; j < i && !seen; j++) {
                seen = held[i].least.isSameAs(held[j].least);
            }
            if (!seen) {
                unlike++;
            }
        }
        return unlike;
    }

    private int bitsOfLeast(boolean forAll) {
        int bits = 0;
        for (int i = 0; i < size; i++) {
            Held now = held[i];
            if (forAll ? now.own.isSameAs(now.least) : now.scale == 1) {
                bits |= 1 << i;
            }
        }
        return bits;
    }

    /** Whole numbers: every division of the class stands here, behind a look at its divisor. */
    private static final class Numbers {
        private Numbers() {
        }

        static long quotient(long a, long m) {
            return m == 0 ? 0 : a / m;
        }

        static long rest(long a, long m) {
            if (m <= 0) {
                return 0;
            }
            long left = a % m;
            return left < 0 ? left + m : left;
        }

        static long power(long base, int exponent) {
            long product = 1;
            for (int i = 0; i < exponent; i++) {
                product *= base;
            }
            return product;
        }

        static long powerRest(long base, long exponent, long m) {
            if (m <= 0) {
                return 0;
            }
            long product = 1;
            long square = base % m;
            for (long left = exponent; left > 0; left >>= 1) {
                if ((left & 1) == 1) {
                    product = product * square % m;
                }
                square = square * square % m;
            }
            product %= m;
            return product < 0 ? product + m : product;
        }

        static int times(long number, long p) {
            if (p < 2 || number == 0) {
                return 0;
            }
            int many = 0;
            for (long left = number; left % p == 0 && many < 64; left /= p) {
                many++;
            }
            return many;
        }

        static boolean isPrime(int p) {
            if (p < 4) {
                return p == 2 || p == 3;
            }
            if (p % 2 == 0 || p % 3 == 0) {
                return false;
            }
            for (int q = 5; q <= 46340 && q * q <= p; q += 6) {
                if (p % q == 0 || p % (q + 2) == 0) {
                    return false;
                }
            }
            return true;
        }

        // Only for a prime p above 2 that does not go in the number.
        static boolean isSquareAt(long number, long p) {
            return powerRest(number, (p - 1) >> 1, p) == 1;
        }

        // The greatest whole number of which the square is not above this one (not below 0).
        static long squareRoot(long number) {
            long root = 0;
            for (long bit = 1L << 30; bit > 0; bit >>= 1) {
                long tried = root + bit;
                if (tried * tried <= number) {
                    root = tried;
                }
            }
            return root;
        }
    }

    /** One CURVE's coefficients and what is reckoned of them. */
    private static final class Equation {
        long a1;
        long a2;
        long a3;
        long a4;
        long a6;
        long b2;
        long b4;
        long b6;
        long b8;
        long c4;
        long c6;
        long disc;

        Equation() {
        }

        // Parts of c4, c6 and DISC may leave the range of long, but what they make in the end is
        // within it for all CURVES, so that the wrapped parts still make the right number.
        void put(long n1, long n2, long n3, long n4, long n6) {
            a1 = n1;
            a2 = n2;
            a3 = n3;
            a4 = n4;
            a6 = n6;
            b2 = a1 * a1 + 4 * a2;
            b4 = a1 * a3 + 2 * a4;
            b6 = a3 * a3 + 4 * a6;
            b8 = a1 * a1 * a6 + 4 * a2 * a6 - a1 * a3 * a4 + a2 * a3 * a3 - a4 * a4;
            c4 = b2 * b2 - 24 * b4;
            c6 = -b2 * b2 * b2 + 36 * b2 * b4 - 216 * b6;
            disc = -b2 * b2 * b8 - 8 * b4 * b4 * b4 - 27 * b6 * b6 + 9 * b2 * b4 * b6;
        }

        void take(Equation from) {
            put(from.a1, from.a2, from.a3, from.a4, from.a6);
        }

        void shift(long r, long s, long t) {
            put(a1 + 2 * s,
                a2 - s * a1 + 3 * r - s * s,
                a3 + r * a1 + 2 * t,
                a4 - s * a3 + 2 * r * a2 - (t + r * s) * a1 + 3 * r * r - 2 * s * t,
                a6 + r * a4 + r * r * a2 + r * r * r - t * a3 - t * t - r * t * a1);
        }

        void grow(Equation from, long u) {
            long square = u * u;
            put(from.a1 * u, from.a2 * square, from.a3 * square * u, from.a4 * square * square,
                from.a6 * square * square * square);
        }

        boolean canShrink(long u) {
            return Numbers.rest(a1, u) == 0
                && Numbers.rest(a2, Numbers.power(u, 2)) == 0
                && Numbers.rest(a3, Numbers.power(u, 3)) == 0
                && Numbers.rest(a4, Numbers.power(u, 4)) == 0
                && Numbers.rest(a6, Numbers.power(u, 6)) == 0;
        }

        void shrink(Equation from, long u) {
            put(Numbers.quotient(from.a1, u),
                Numbers.quotient(from.a2, Numbers.power(u, 2)),
                Numbers.quotient(from.a3, Numbers.power(u, 3)),
                Numbers.quotient(from.a4, Numbers.power(u, 4)),
                Numbers.quotient(from.a6, Numbers.power(u, 6)));
        }

        boolean isWithinBounds() {
            return within(a1, MOST_COEFFICIENT) && within(a2, MOST_COEFFICIENT) && within(a3, MOST_COEFFICIENT)
                && within(a4, MOST_COEFFICIENT) && within(a6, MOST_COEFFICIENT) && within(disc, MOST_DISC);
        }

        boolean isSameAs(Equation other) {
            return a1 == other.a1 && a2 == other.a2 && a3 == other.a3 && a4 == other.a4 && a6 == other.a6;
        }

        // At x the equation is y y + slope y = right; y is (-slope +- the root of discriminant) / 2.
        long slopeAt(long x) {
            return a1 * x + a3;
        }

        long rightAt(long x) {
            return ((x + a2) * x + a4) * x + a6;
        }

        long discriminantAt(long x) {
            return slopeAt(x) * slopeAt(x) + 4 * rightAt(x);
        }

        long value(int what) {
            switch (what) {
                case 0:
                    return a1;
                case 1:
                    return a2;
                case 2:
                    return a3;
                case 3:
                    return a4;
                case 4:
                    return a6;
                case 5:
                    return b2;
                case 6:
                    return b4;
                case 7:
                    return b6;
                case 8:
                    return b8;
                case 9:
                    return c4;
                case 10:
                    return c6;
                default:
                    return disc;
            }
        }
    }

    /**
     * LEAST for all, from c4, c6 and DISC alone: they tell by Kraus's conditions by which u there is
     * a whole CURVE, and the coefficients that are 0 or 1 (or -1) leave only one to choose.
     */
    private static final class Lowering {
        private Lowering() {
        }

        // Answers SCALE.
        static long lower(long c4, long c6, long disc, Equation into) {
            long scale = 1;
            long left4 = c4;
            long left6 = c6;
            for (int p : SHRINK_PRIMES) {
                int k = mostShrinks(left4, left6, disc, p);
                while (k > 0 && !isWhole(shrunk(left4, p, 4 * k), shrunk(left6, p, 6 * k), p)) {
                    k--;
                }
                left4 = shrunk(left4, p, 4 * k);
                left6 = shrunk(left6, p, 6 * k);
                scale *= Numbers.power(p, k);
            }
            build(left4, left6, into);
            return scale;
        }

        private static int mostShrinks(long c4, long c6, long disc, long p) {
            int most = Numbers.times(disc, p) / 12;
            if (c4 != 0) {
                most = Math.min(most, Numbers.times(c4, p) / 4);
            }
            if (c6 != 0) {
                most = Math.min(most, Numbers.times(c6, p) / 6);
            }
            return most;
        }

        private static long shrunk(long number, long p, int exponent) {
            return Numbers.quotient(number, Numbers.power(p, exponent));
        }

        private static boolean isWhole(long c4, long c6, int p) {
            if (p == 2) {
                long rest = Numbers.rest(c6, 32);
                return Numbers.rest(c6, 4) == 3 || (Numbers.rest(c4, 16) == 0 && (rest == 0 || rest == 8));
            }
            return p != 3 || Numbers.rest(c6, 9) != 0 || Numbers.rest(c6, 27) == 0;
        }

        private static void build(long c4, long c6, Equation into) {
            // b2 is -c6 modulo 12, and with small a1, a2 it is -4 to 5.
            long b2 = Numbers.rest(-c6, 12);
            if (b2 > 6) {
                b2 -= 12;
            }
            long b4 = Numbers.quotient(b2 * b2 - c4, 24);
            long b6 = Numbers.quotient(-b2 * b2 * b2 + 36 * b2 * b4 - c6, 216);
            long a1 = Numbers.rest(b2, 2);
            long a3 = Numbers.rest(b6, 2);
            into.put(a1, Numbers.quotient(b2 - a1, 4), a3, Numbers.quotient(b4 - a1 * a3, 2),
                Numbers.quotient(b6 - a3, 4));
        }
    }

    /** The primes that go in a number, upwards. */
    private static final class Primes {
        // The product of the first 16 primes is above the greatest DISC.
        final int[] row = new int[16];
        int many = 0;

        Primes() {
        }

        int get(int i) {
            return i >= 0 && i < many ? row[i] : NONE;
        }

        void find(long number) {
            many = 0;
            long left = without(without(Math.abs(number), 2), 3);
            // No DISC that comes of curve() and twist() has two primes above a million.
            for (int q = 5; q < 1000000 && (long) q * q <= left; q += 6) {
                if (left % q == 0 || left % (q + 2) == 0) {
                    left = without(without(left, q), q + 2);
                }
            }
            if (left > 1) {
                add(left);
            }
        }

        private long without(long number, int p) {
            if (Numbers.rest(number, p) != 0) {
                return number;
            }
            add(p);
            return Numbers.quotient(number, Numbers.power(p, Numbers.times(number, p)));
        }

        private void add(long p) {
            if (many < row.length) {
                row[many] = (int) p;
                many++;
            }
        }
    }

    /** A CURVE that the object holds, with its LEAST for all. */
    private static final class Held {
        final Equation own = new Equation();
        final Equation least = new Equation();
        long scale = 1;
        private final Primes primes = new Primes();
        private boolean primesKnown = false;

        Held() {
        }

        void hold(Equation equation) {
            own.take(equation);
            scale = Lowering.lower(own.c4, own.c6, own.disc, least);
            primesKnown = false;
        }

        // Found when they are first asked for: no other part of a call is as dear.
        Primes primesOfDisc() {
            if (!primesKnown) {
                primes.find(own.disc);
                primesKnown = true;
            }
            return primes;
        }
    }

    /** To what a CURVE that is LEAST falls at one prime. */
    private static final class Fall {
        int kind = 0;
        int index = 0;
        int exponent = 0;
        int components = 1;
        int owned = 1;
        int times = 0;
        boolean split = false;
        private final Equation work = new Equation();
        private int p = 2;

        Fall() {
        }

        int value(int what) {
            switch (what) {
                case 0:
                    return kind;
                case 1:
                    return index;
                case 2:
                    return exponent;
                case 3:
                    return components;
                case 4:
                    return owned;
                case 5:
                    return times;
                default:
                    return split ? 1 : 0;
            }
        }

        void reckon(Equation least, int prime) {
            p = prime;
            times = Numbers.times(least.disc, p);
            split = false;
            if (times == 0) {
                tell(GOOD, 0, 1, 1);
                return;
            }
            // Modulo p, c4 is the square of the b2 that is asked about.
            if (Numbers.rest(least.c4, p) != 0) {
                tellNode(least);
                return;
            }
            work.take(least);
            moveSingularPoint();
            if (tellEarlyKind()) {
                return;
            }
            moveForCubic();
            // Modulo p, as only that counts: of a TWIST of great coefficients the products would wrap.
            long b = Numbers.rest(part(work.a2, 1), p);
            long c = Numbers.rest(part(work.a4, 2), p);
            long d = Numbers.rest(part(work.a6, 3), p);
            if (Numbers.rest(18 * b * c * d + b * b * c * c - 4 * b * b * b * d - 4 * c * c * c - 27 * d * d, p) != 0) {
                tell(5, times - 4, 5, 1 + cubicRoots(b, c, d));
                return;
            }
            work.shift(p * multipleRoot(b, c, d), 0, 0);
            if (Numbers.rest(b * b - 3 * c, p) != 0) {
                tellByTurns();
            } else {
                tellLateKind();
            }
        }

        private void tell(int theKind, int theExponent, int theComponents, int theOwned) {
            kind = theKind;
            index = 0;
            exponent = theExponent;
            components = theComponents;
            owned = theOwned;
        }

        private void tellNode(Equation least) {
            // Moving the node to 0, 0 makes a2 + a3 of a2 at 2; at others b2 is -c6 / c4, and c4 is a square.
            split = p == 2
                ? Numbers.rest(least.a2 + least.a3, 2) == 0
                : Numbers.isSquareAt(-least.c6, p);
            int unsplit = (times & 1) == 0 ? 2 : 1;
            tell(NODE, 1, times, split ? times : unsplit);
            index = times;
        }

        private void moveSingularPoint() {
            long r;
            long t;
            if (p == 2) {
                r = Numbers.rest(work.a4, 2);
                t = Numbers.rest(work.rightAt(r), 2);
            } else {
                r = p == 3
                    ? Numbers.rest(-work.b6, 3)
                    : Numbers.rest(-Numbers.rest(work.b2, p) * Numbers.powerRest(12, p - 2, p), p);
                t = half(-work.slopeAt(r));
            }
            work.shift(r, 0, t);
        }

        // Half of a number modulo p (not 2).
        private long half(long number) {
            return Numbers.rest(Numbers.rest(number, p) * ((p + 1L) >> 1), p);
        }

        private long part(long number, int exponentOfP) {
            return Numbers.quotient(number, Numbers.power(p, exponentOfP));
        }

        private boolean goesIn(long number, int exponentOfP) {
            return Numbers.rest(number, Numbers.power(p, exponentOfP)) == 0;
        }

        private boolean tellEarlyKind() {
            if (!goesIn(work.a6, 2)) {
                tell(2, times, 1, 1);
                return true;
            }
            if (!goesIn(work.b8, 3)) {
                tell(3, times - 1, 2, 2);
                return true;
            }
            if (!goesIn(work.b6, 3)) {
                boolean has = rootOf(1, part(work.a3, 1), -part(work.a6, 2)) != NONE;
                tell(4, times - 2, 3, has ? 3 : 1);
                return true;
            }
            return false;
        }

        private void moveForCubic() {
            if (p == 2) {
                work.shift(0, Numbers.rest(work.a2, 2), 2 * Numbers.rest(part(work.a6, 2), 2));
            } else {
                work.shift(0, half(-work.a1), p * half(-part(work.a3, 1)));
            }
        }

        private long cubicAt(long root, long b, long c, long d) {
            return ((root + b) * root + c) * root + d;
        }

        private int cubicRoots(long b, long c, long d) {
            int many = 0;
            for (int root = 0; root < p; root++) {
                if (goesIn(cubicAt(root, b, c, d), 1)) {
                    many++;
                }
            }
            return many;
        }

        private long multipleRoot(long b, long c, long d) {
            for (int root = 0; root < p; root++) {
                if (goesIn(cubicAt(root, b, c, d), 1) && goesIn((3L * root + 2 * b) * root + c, 1)) {
                    return root;
                }
            }
            return 0;
        }

        // The least root of a T T + b T + c of 0 to p - 1, or NONE.
        private int rootOf(long a, long b, long c) {
            for (int root = 0; root < p; root++) {
                if (Numbers.rest((a * root + b) * root + c, p) == 0) {
                    return root;
                }
            }
            return NONE;
        }

        private boolean hasUnlikeRoots(long a, long b, long c) {
            return Numbers.rest(b * b - 4 * a * c, p) != 0;
        }

        private void tellByTurns() {
            // f is not below 1, so that k stays below n.
            for (int k = 1; k <= times; k++) {
                boolean odd = (k & 1) == 1;
                int e = (odd ? k + 3 : k + 4) >> 1;
                long a = odd ? 1 : Numbers.rest(part(work.a2, 1), p);
                long b = Numbers.rest(part(odd ? work.a3 : work.a4, e), p);
                long c = Numbers.rest(odd ? -part(work.a6, 2 * e) : part(work.a6, 2 * e - 1), p);
                int root = rootOf(a, b, c);
                if (hasUnlikeRoots(a, b, c)) {
                    tell(6, times - 4 - k, 5 + k, root == NONE ? 2 : 4);
                    index = k;
                    return;
                }
                if (odd) {
                    work.shift(0, 0, root * Numbers.power(p, e));
                } else {
                    work.shift(root * Numbers.power(p, e - 1), 0, 0);
                }
            }
        }

        private void tellLateKind() {
            long b = Numbers.rest(part(work.a3, 2), p);
            long c = Numbers.rest(-part(work.a6, 4), p);
            int root = rootOf(1, b, c);
            if (hasUnlikeRoots(1, b, c)) {
                tell(7, times - 6, 7, root == NONE ? 1 : 3);
                return;
            }
            work.shift(0, 0, root * Numbers.power(p, 2));
            if (!goesIn(work.a4, 4)) {
                tell(8, times - 7, 8, 2);
            } else {
                tell(9, times - 8, 9, 1);
            }
        }
    }

    /** The SMALL points of one CURVE. */
    private static final class SmallPoints {
        static final int MOST_X = 60;

        final int[] xs = new int[4 * MOST_X + 2];
        final int[] ys = new int[4 * MOST_X + 2];
        int many = 0;

        SmallPoints() {
        }

        void find(Equation equation) {
            many = 0;
            for (int x = -MOST_X; x <= MOST_X; x++) {
                long discriminant = equation.discriminantAt(x);
                long root = Numbers.squareRoot(discriminant);
                if (discriminant >= 0 && root * root == discriminant) {
                    // The slope and the root are both even or both odd.
                    long slope = equation.slopeAt(x);
                    add(x, (-slope - root) >> 1);
                    if (root != 0) {
                        add(x, (-slope + root) >> 1);
                    }
                }
            }
        }

        private void add(int x, long y) {
            if (many < xs.length) {
                xs[many] = x;
                ys[many] = (int) y;
                many++;
            }
        }

        int opposite(Equation equation, int i) {
            if (i < 0 || i >= many) {
                return NONE;
            }
            long y = -ys[i] - equation.slopeAt(xs[i]);
            for (int j = 0; j < many; j++) {
                if (xs[j] == xs[i] && ys[j] == y) {
                    return j;
                }
            }
            return NONE;
        }
    }
}
