import java.math.BigInteger;
import java.util.ArrayList;
import java.util.List;
import java.util.NoSuchElementException;

/**
 * The document's words, taken literally and slowly: numbers without bounds, every change and every
 * root found by trying. It shares no way of reckoning with CurveFalls: LEAST comes of shrinking at
 * each prime in turn, not of c4 and c6.
 */
public final class Reference {
    private static final int NONE = -1;
    private static final BigInteger BOUND = BigInteger.valueOf(100000);
    private static final BigInteger DISC_BOUND = BigInteger.TEN.pow(18);
    private static final BigInteger TWIST_BOUND = BigInteger.valueOf(2000000000L);

    private final List<BigInteger[]> curves = new ArrayList<>();

    /** What at() tells, and the CURVE when it has been SHRUNK as often as can be. */
    private static final class Local {
        int kind;
        int index;
        int f;
        int m = 1;
        int c = 1;
        int n;
        boolean split;
        int shrunk;
        BigInteger[] model;
    }

    public int curve(int a1, int a2, int a3, int a4, int a6) {
        if (Math.max(Math.max(size(a1), size(a2)), size(a3)) > 9 || Math.max(size(a4), size(a6)) > 99) {
            return NONE;
        }
        return add(row(a1, a2, a3, a4, a6));
    }

    public int change(int curve, int r, int s, int t) {
        if (!there(curve) || Math.max(Math.max(size(r), size(s)), size(t)) > 99) {
            return NONE;
        }
        return add(changed(curves.get(curve), big(r), big(s), big(t)));
    }

    public int scale(int curve, int u, boolean grown) {
        if (!there(curve) || u < 2 || u > 9) {
            return NONE;
        }
        BigInteger[] scaled = grown ? grown(curves.get(curve), u) : shrunk(curves.get(curve), u);
        return scaled == null ? NONE : add(scaled);
    }

    public int least(int curve) {
        return there(curve) ? add(leastForAll(curves.get(curve))) : NONE;
    }

    public int twist(int curve, int d) {
        return there(curve) && d != 1 && mayTwist(curve, d) ? add(twistOf(curve, d)) : NONE;
    }

    public int drop() {
        if (curves.isEmpty()) {
            return NONE;
        }
        curves.remove(curves.size() - 1);
        return curves.size();
    }

    public long of(int curve, int what) {
        if (!there(curve) || what < 0 || what > 11) {
            throw new NoSuchElementException();
        }
        return reckoned(curves.get(curve))[what].longValueExact();
    }

    public int at(int curve, int p, int what) {
        if (!there(curve) || what < 0 || what > 7 || p > 999983 || !isPrime(p)) {
            return NONE;
        }
        Local local = localOf(curves.get(curve), p);
        int[] told = {local.kind, local.index, local.f, local.m, local.c, local.n, local.split ? 1 : 0, local.shrunk};
        return told[what];
    }

    public int prime(int curve, int i) {
        if (!there(curve)) {
            return NONE;
        }
        List<Integer> primes = primesOf(disc(curves.get(curve)));
        if (i == NONE) {
            return primes.size();
        }
        return i >= 0 && i < primes.size() ? primes.get(i) : NONE;
    }

    public long conductor(int curve) {
        return there(curve) ? conductorOf(curves.get(curve)) : 0;
    }

    public long leastOf(int curve, int what) {
        if (!there(curve) || what < 0 || what > 12) {
            throw new NoSuchElementException();
        }
        BigInteger[] least = leastForAll(curves.get(curve));
        if (what < 12) {
            return reckoned(least)[what].longValueExact();
        }
        BigInteger quotient = disc(curves.get(curve)).divide(disc(least));
        long u = 1;
        while (!big(u).pow(12).equals(quotient)) {
            u++;
        }
        return u;
    }

    public boolean one(int curve, int other) {
        return there(curve) && there(other) && areOne(curves.get(curve), curves.get(other));
    }

    public int points(int curve, int p) {
        return there(curve) && p <= 199 && isPrime(p) ? pointsOn(curves.get(curve), p) : NONE;
    }

    public int trace(int curve, int p) {
        if (!there(curve) || p > 199 || !isPrime(p)) {
            return -1000;
        }
        Local local = localOf(curves.get(curve), p);
        if (local.kind == 0) {
            return p + 1 - pointsOn(local.model, p);
        }
        return local.kind != 1 ? 0 : local.split ? 1 : -1;
    }

    public long own(int curve) {
        if (!there(curve)) {
            return NONE;
        }
        long product = 1;
        for (int p : primesOf(disc(curves.get(curve)))) {
            product *= localOf(curves.get(curve), p).c;
        }
        return product;
    }

    public int best(int curve) {
        if (!there(curve) || !hasTwists(curve)) {
            return 0;
        }
        int best = 1;
        for (int size = 1; size <= 10; size++) {
            for (int d = size; d >= -size; d -= 2 * size) {
                if (twisted(curve, d) != 0 && twisted(curve, d) < twisted(curve, best)) {
                    best = d;
                }
            }
        }
        return best;
    }

    public long twisted(int curve, int d) {
        if (d == 1) {
            return there(curve) && hasTwists(curve) ? conductor(curve) : 0;
        }
        return there(curve) && mayTwist(curve, d) ? conductorOf(twistOf(curve, d)) : 0;
    }

    public int small(int curve) {
        return there(curve) ? smallPoints(curves.get(curve)).size() : NONE;
    }

    public int point(int curve, int i, int what) {
        if (!there(curve) || what < 0 || what > 1) {
            throw new NoSuchElementException();
        }
        List<long[]> points = smallPoints(curves.get(curve));
        if (i < 0 || i >= points.size()) {
            throw new NoSuchElementException();
        }
        return Math.toIntExact(points.get(i)[what]);
    }

    public int minus(int curve, int i) {
        if (!there(curve)) {
            return NONE;
        }
        BigInteger[] a = curves.get(curve);
        List<long[]> points = smallPoints(a);
        if (i < 0 || i >= points.size()) {
            return NONE;
        }
        long x = points.get(i)[0];
        long y = -points.get(i)[1] - a[0].longValueExact() * x - a[2].longValueExact();
        for (int j = 0; j < points.size(); j++) {
            if (points.get(j)[0] == x && points.get(j)[1] == y) {
                return j;
            }
        }
        return NONE;
    }

    public int count(int what) {
        if (what < 1 || what > 3) {
            return what == 0 ? curves.size() : NONE;
        }
        int unlike = 0;
        int leastForAll = 0;
        int leastAtEach = 0;
        for (int i = 0; i < curves.size(); i++) {
            boolean seen = false;
            for (int j = 0; j < i; j++) {
                seen |= areOne(curves.get(i), curves.get(j));
            }
            unlike += seen ? 0 : 1;
            BigInteger[] least = leastForAll(curves.get(i));
            leastForAll |= same(least, curves.get(i)) ? 1 << i : 0;
            leastAtEach |= disc(least).equals(disc(curves.get(i))) ? 1 << i : 0;
        }
        return new int[] {unlike, leastForAll, leastAtEach}[what - 1];
    }

    private boolean there(int curve) {
        return curve >= 0 && curve < curves.size();
    }

    private static long size(int number) {
        return Math.abs((long) number);
    }

    private static BigInteger big(long number) {
        return BigInteger.valueOf(number);
    }

    private static BigInteger[] row(long... numbers) {
        BigInteger[] row = new BigInteger[numbers.length];
        for (int i = 0; i < numbers.length; i++) {
            row[i] = big(numbers[i]);
        }
        return row;
    }

    private int add(BigInteger[] a) {
        BigInteger disc = disc(a).abs();
        if (curves.size() == 16 || disc.signum() == 0 || disc.compareTo(DISC_BOUND) > 0) {
            return NONE;
        }
        for (BigInteger coefficient : a) {
            if (coefficient.abs().compareTo(BOUND) > 0) {
                return NONE;
            }
        }
        curves.add(a);
        return curves.size() - 1;
    }

    private static BigInteger[] reckoned(BigInteger[] a) {
        BigInteger a1 = a[0];
        BigInteger a2 = a[1];
        BigInteger a3 = a[2];
        BigInteger a4 = a[3];
        BigInteger a6 = a[4];
        BigInteger b2 = a1.multiply(a1).add(a2.shiftLeft(2));
        BigInteger b4 = a1.multiply(a3).add(a4.shiftLeft(1));
        BigInteger b6 = a3.multiply(a3).add(a6.shiftLeft(2));
        BigInteger b8 = a1.multiply(a1).multiply(a6).add(a2.multiply(a6).shiftLeft(2))
            .subtract(a1.multiply(a3).multiply(a4)).add(a2.multiply(a3).multiply(a3)).subtract(a4.multiply(a4));
        BigInteger c4 = b2.pow(2).subtract(b4.multiply(big(24)));
        BigInteger c6 = b2.pow(3).negate().add(b2.multiply(b4).multiply(big(36))).subtract(b6.multiply(big(216)));
        BigInteger disc = b2.pow(2).multiply(b8).negate().subtract(b4.pow(3).shiftLeft(3))
            .subtract(b6.pow(2).multiply(big(27))).add(b2.multiply(b4).multiply(b6).multiply(big(9)));
        return new BigInteger[] {a1, a2, a3, a4, a6, b2, b4, b6, b8, c4, c6, disc};
    }

    private static BigInteger disc(BigInteger[] a) {
        return reckoned(a)[11];
    }

    private static BigInteger[] changed(BigInteger[] a, BigInteger r, BigInteger s, BigInteger t) {
        BigInteger two = BigInteger.TWO;
        BigInteger three = big(3);
        return new BigInteger[] {
            a[0].add(two.multiply(s)),
            a[1].subtract(s.multiply(a[0])).add(three.multiply(r)).subtract(s.multiply(s)),
            a[2].add(r.multiply(a[0])).add(two.multiply(t)),
            a[3].subtract(s.multiply(a[2])).add(two.multiply(r).multiply(a[1]))
                .subtract(t.add(r.multiply(s)).multiply(a[0])).add(three.multiply(r).multiply(r))
                .subtract(two.multiply(s).multiply(t)),
            a[4].add(r.multiply(a[3])).add(r.multiply(r).multiply(a[1])).add(r.pow(3))
                .subtract(t.multiply(a[2])).subtract(t.multiply(t)).subtract(r.multiply(t).multiply(a[0]))};
    }

    private static final int[] WEIGHTS = {1, 2, 3, 4, 6};

    private static BigInteger[] grown(BigInteger[] a, long u) {
        BigInteger[] answer = new BigInteger[5];
        for (int i = 0; i < 5; i++) {
            answer[i] = a[i].multiply(big(u).pow(WEIGHTS[i]));
        }
        return answer;
    }

    private static BigInteger[] shrunk(BigInteger[] a, long u) {
        BigInteger[] answer = new BigInteger[5];
        for (int i = 0; i < 5; i++) {
            BigInteger[] parts = a[i].divideAndRemainder(big(u).pow(WEIGHTS[i]));
            if (parts[1].signum() != 0) {
                return null;
            }
            answer[i] = parts[0];
        }
        return answer;
    }

    private static boolean same(BigInteger[] a, BigInteger[] b) {
        return java.util.Arrays.equals(a, b);
    }

    private static boolean areOne(BigInteger[] a, BigInteger[] b) {
        return same(leastForAll(a), leastForAll(b));
    }

    private static boolean isPrime(long p) {
        return p > 1 && BigInteger.valueOf(p).isProbablePrime(40);
    }

    private static List<Integer> primesOf(BigInteger number) {
        List<Integer> primes = new ArrayList<>();
        BigInteger left = number.abs();
        for (int p = 2; big((long) p * p).compareTo(left) <= 0; p++) {
            if (goes(left, p, 1)) {
                primes.add(p);
            }
            while (goes(left, p, 1)) {
                left = left.divide(big(p));
            }
        }
        if (!left.equals(BigInteger.ONE)) {
            primes.add(left.intValueExact());
        }
        return primes;
    }

    private static boolean goes(BigInteger number, long p, int power) {
        return number.mod(big(p).pow(power)).signum() == 0;
    }

    private static BigInteger part(BigInteger number, long p, int power) {
        return number.divide(big(p).pow(power));
    }

    private static long conductorOf(BigInteger[] a) {
        BigInteger product = BigInteger.ONE;
        for (int p : primesOf(disc(a))) {
            product = product.multiply(big(p).pow(localOf(a, p).f));
        }
        return product.longValueExact();
    }

    private static BigInteger[] leastForAll(BigInteger[] a) {
        BigInteger[] now = a;
        for (int p = 2; p < 40; p++) {
            if (isPrime(p) && goes(disc(now), p, 12)) {
                now = localOf(now, p).model;
            }
        }
        BigInteger s = now[0].mod(BigInteger.TWO).subtract(now[0]).divide(BigInteger.TWO);
        now = changed(now, BigInteger.ZERO, s, BigInteger.ZERO);
        BigInteger wanted = now[1].mod(big(3));
        BigInteger a2 = wanted.intValue() == 2 ? big(-1) : wanted;
        now = changed(now, a2.subtract(now[1]).divide(big(3)), BigInteger.ZERO, BigInteger.ZERO);
        BigInteger t = now[2].mod(BigInteger.TWO).subtract(now[2]).divide(BigInteger.TWO);
        return changed(now, BigInteger.ZERO, BigInteger.ZERO, t);
    }

    private boolean mayTwist(int curve, int d) {
        boolean allowed = d != 0 && d != 1 && size(d) <= 10;
        for (int q = 2; q <= 3; q++) {
            allowed &= d % (q * q) != 0;
        }
        return allowed && hasTwists(curve);
    }

    private boolean hasTwists(int curve) {
        return disc(leastForAll(curves.get(curve))).abs().compareTo(TWIST_BOUND) <= 0;
    }

    private BigInteger[] twistOf(int curve, int d) {
        BigInteger[] all = reckoned(curves.get(curve));
        return leastForAll(new BigInteger[] {BigInteger.ZERO, all[5].multiply(big(d)), BigInteger.ZERO,
            all[6].multiply(big(8L * d * d)), all[7].multiply(big(16L * d * d * d))});
    }

    private static int pointsOn(BigInteger[] a, int p) {
        long[] n = new long[5];
        for (int i = 0; i < 5; i++) {
            n[i] = a[i].mod(big(p)).longValue();
        }
        int many = 1;
        for (long x = 0; x < p; x++) {
            for (long y = 0; y < p; y++) {
                many += (y * y + n[0] * x * y + n[2] * y - x * x * x - n[1] * x * x - n[3] * x - n[4]) % p == 0 ? 1 : 0;
            }
        }
        return many;
    }

    private static List<long[]> smallPoints(BigInteger[] a) {
        List<long[]> points = new ArrayList<>();
        for (long x = -60; x <= 60; x++) {
            BigInteger h = a[0].multiply(big(x)).add(a[2]);
            BigInteger g = big(x * x * x).add(a[1].multiply(big(x * x))).add(a[3].multiply(big(x))).add(a[4]);
            BigInteger inside = h.multiply(h).add(g.shiftLeft(2));
            if (inside.signum() < 0 || !inside.sqrt().pow(2).equals(inside)) {
                continue;
            }
            BigInteger root = inside.sqrt();
            points.add(new long[] {x, h.negate().subtract(root).divide(BigInteger.TWO).longValueExact()});
            if (root.signum() != 0) {
                points.add(new long[] {x, h.negate().add(root).divide(BigInteger.TWO).longValueExact()});
            }
        }
        return points;
    }

    private static Local localOf(BigInteger[] a, long p) {
        Local local = new Local();
        local.model = a;
        while (!fall(local, p)) {
            local.shrunk++;
        }
        return local;
    }

    /** Tells the kind of local.model, or shrinks it and answers false. */
    private static boolean fall(Local local, long p) {
        BigInteger disc = disc(local.model);
        local.n = 0;
        while (goes(disc, p, local.n + 1)) {
            local.n++;
        }
        int n = local.n;
        if (n == 0) {
            return tell(local, 0, 0, 0, 1, 1);
        }
        if (p > 999983) {
            if (n != 1) {
                throw new IllegalStateException("a great prime goes in DISC more than once");
            }
            return tell(local, 1, 1, 1, 1, 1);
        }
        BigInteger[] a = toSingularPoint(local.model, p);
        BigInteger[] all = reckoned(a);
        if (!goes(all[5], p, 1)) {
            local.split = rootOf(p, BigInteger.ONE, a[0], a[1].negate()) != null;
            return tell(local, 1, n, 1, n, local.split ? n : n % 2 == 0 ? 2 : 1);
        }
        if (!goes(a[4], p, 2)) {
            return tell(local, 2, 0, n, 1, 1);
        }
        if (!goes(all[8], p, 3)) {
            return tell(local, 3, 0, n - 1, 2, 2);
        }
        if (!goes(all[7], p, 3)) {
            boolean has = rootOf(p, BigInteger.ONE, part(a[2], p, 1), part(a[4], p, 2).negate()) != null;
            return tell(local, 4, 0, n - 2, 3, has ? 3 : 1);
        }
        return fallByCubic(local, p, toCubic(a, p));
    }

    private static boolean tell(Local local, int kind, int index, int f, int m, int c) {
        local.kind = kind;
        local.index = index;
        local.f = f;
        local.m = m;
        local.c = c;
        return true;
    }

    private static boolean fallByCubic(Local local, long p, BigInteger[] a) {
        BigInteger[] cubic = {part(a[4], p, 3), part(a[3], p, 2), part(a[1], p, 1), BigInteger.ONE};
        int roots = 0;
        long multiple = -1;
        int order = 0;
        for (long root = 0; root < p; root++) {
            int now = orderOf(cubic, root, p);
            roots += now > 0 ? 1 : 0;
            if (now > 1) {
                multiple = root;
                order = now;
            }
        }
        if (order < 2) {
            return tell(local, 5, 0, local.n - 4, 5, 1 + roots);
        }
        BigInteger[] moved = changed(a, big(p * multiple), BigInteger.ZERO, BigInteger.ZERO);
        return order == 2 ? fallByTurns(local, p, moved) : fallLate(local, p, moved);
    }

    /** How often T - root goes in the cubic modulo p: by dividing. */
    private static int orderOf(BigInteger[] cubic, long root, long p) {
        BigInteger[] left = cubic.clone();
        int order = 0;
        for (int degree = 3; degree > 0; degree--) {
            BigInteger carry = BigInteger.ZERO;
            BigInteger[] next = new BigInteger[degree];
            for (int i = degree; i >= 0; i--) {
                carry = carry.multiply(big(root)).add(left[i]);
                if (i > 0) {
                    next[i - 1] = carry;
                }
            }
            if (!goes(carry, p, 1)) {
                return order;
            }
            order++;
            left = next;
        }
        return order;
    }

    private static boolean fallByTurns(Local local, long p, BigInteger[] moved) {
        BigInteger[] a = moved;
        BigInteger zero = BigInteger.ZERO;
        for (int k = 1;; k++) {
            boolean odd = k % 2 == 1;
            int e = odd ? (k + 3) / 2 : (k + 4) / 2;
            BigInteger[] q = odd
                ? new BigInteger[] {BigInteger.ONE, part(a[2], p, e), part(a[4], p, 2 * e).negate()}
                : new BigInteger[] {part(a[1], p, 1), part(a[3], p, e), part(a[4], p, 2 * e - 1)};
            Long root = rootOf(p, q[0], q[1], q[2]);
            if (unlike(p, q)) {
                return tell(local, 6, k, local.n - 4 - k, 5 + k, root != null ? 4 : 2);
            }
            a = odd
                ? changed(a, zero, zero, big(root).multiply(big(p).pow(e)))
                : changed(a, big(root).multiply(big(p).pow(e - 1)), zero, zero);
        }
    }

    private static boolean fallLate(Local local, long p, BigInteger[] moved) {
        BigInteger[] q = {BigInteger.ONE, part(moved[2], p, 2), part(moved[4], p, 4).negate()};
        Long root = rootOf(p, q[0], q[1], q[2]);
        if (unlike(p, q)) {
            return tell(local, 7, 0, local.n - 6, 7, root != null ? 3 : 1);
        }
        BigInteger[] a = changed(moved, BigInteger.ZERO, BigInteger.ZERO, big(root * p * p));
        if (!goes(a[3], p, 4)) {
            return tell(local, 8, 0, local.n - 7, 8, 2);
        }
        if (!goes(a[4], p, 6)) {
            return tell(local, 9, 0, local.n - 8, 9, 1);
        }
        local.model = shrunk(a, p);
        return false;
    }

    private static boolean unlike(long p, BigInteger[] q) {
        return !goes(q[1].multiply(q[1]).subtract(q[0].multiply(q[2]).shiftLeft(2)), p, 1);
    }

    private static Long rootOf(long p, BigInteger qa, BigInteger qb, BigInteger qc) {
        long a = qa.mod(big(p)).longValue();
        long b = qb.mod(big(p)).longValue();
        long c = qc.mod(big(p)).longValue();
        for (long root = 0; root < p; root++) {
            if (((a * root + b) % p * root + c) % p == 0) {
                return root;
            }
        }
        return null;
    }

    private static BigInteger[] toSingularPoint(BigInteger[] a, long p) {
        long[] n = new long[5];
        for (int i = 0; i < 5; i++) {
            n[i] = a[i].mod(big(p)).longValue();
        }
        for (long r = 0; r < p; r++) {
            // The t by which p goes in a3: one for odd p, both are tried at 2.
            for (long i = 0; i < (p == 2 ? 2 : 1); i++) {
                long slope = (n[2] + r * n[0]) % p;
                long t = p == 2 ? i : slope % 2 == 0 ? (p - slope / 2) % p : (p - slope) / 2;
                long x = ((r + n[1]) % p * r + n[3]) % p;
                long dx = ((3 * r + 2 * n[1]) % p * r + n[3] + (p - t) * n[0]) % p;
                long value = (x * r + n[4] + (p - t) * ((n[2] + t + r * n[0]) % p)) % p;
                if (dx == 0 && value == 0 && (slope + 2 * t) % p == 0) {
                    return changed(a, big(r), BigInteger.ZERO, big(t));
                }
            }
        }
        throw new IllegalStateException("no singular point");
    }

    private static BigInteger[] toCubic(BigInteger[] a, long p) {
        for (long s = 0; s < p; s++) {
            for (long t = 0; t < p; t++) {
                BigInteger[] b = changed(a, BigInteger.ZERO, big(s), big(t * p));
                if (goes(b[0], p, 1) && goes(b[1], p, 1) && goes(b[2], p, 2) && goes(b[3], p, 2) && goes(b[4], p, 3)) {
                    return b;
                }
            }
        }
        throw new IllegalStateException("no change for the cubic");
    }
}
