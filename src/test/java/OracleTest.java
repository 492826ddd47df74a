import java.math.BigDecimal;
import java.math.BigInteger;
import java.util.Random;

/**
 * Long runs of calls beside a model: a register of it holds a Long, or a Double with the
 * machine's own arithmetic, which rounds as the document's reals do. The seeds are fixed.
 */
public final class OracleTest {
    private static final int RUNS = 1500;
    private static final int CALLS = 512;
    private static final int PAIRS = 4000;
    private static final int PAIRS_OF_ONE_OBJECT = 60;
    private static final Check check = new Check();

    private static final long[] NUMBERS = {0, 1, -1, 2, 3, -3, 5, 7, 10, 62, 63, 64, -63, -64, 65535,
        65536, -65536, 65537, Long.MAX_VALUE, Long.MIN_VALUE, Long.MAX_VALUE - 1, Long.MIN_VALUE + 1,
        1L << 52, (1L << 53) - 1, 1L << 53, (1L << 53) + 1, (1L << 54) + 1, (1L << 54) + 2,
        (1L << 54) + 3, -(1L << 53) - 1, (1L << 62) + (1L << 9), (1L << 62) + (1L << 9) + 1};
    private static final int[] SCALES = {0, 0, -1, 1, -52, -53, 10, 11, 63, 64, 970, 971, 972, 1023,
        1024, -1074, -1075, -1073, -1022, -1023, -1126, -1127, -1137, -1200, 1200, -537, -538, 512};

    private final Random random;
    private final MixedNumbers x = new MixedNumbers();
    private final Object[] model = new Object[32];

    private OracleTest(long seed) {
        random = new Random(seed);
        java.util.Arrays.fill(model, 0L);
    }

    public static void main(String[] args) {
        for (int run = 0; run < RUNS; run++) {
            OracleTest test = new OracleTest(run);
            for (int i = 0; i < CALLS; i++) {
                test.step(run % 3 == 0 ? 32 : 6, "run " + run + ", call " + i + ": ");
            }
            test.all("run " + run + ", at its end: ");
        }
        for (int run = 0; run < PAIRS; run++) {
            OracleTest test = new OracleTest(-1 - run);
            for (int i = 0; i < PAIRS_OF_ONE_OBJECT; i++) {
                test.pair("pair " + i + " of " + run + ": ");
            }
        }
        check.end("OracleTest");
    }

    /** Two numbers near each other in size, where results cancel out or lie close to a tie. */
    private void pair(String at) {
        int e = random.nextInt(2100) - 1074;
        for (int r = 0; r < 2; r++) {
            long m = random.nextLong() >> (10 + random.nextInt(random.nextBoolean() ? 54 : 1));
            int scale = Math.max(-1200, Math.min(1200, e + random.nextInt(121) - 60));
            check.due(at + "real", x.real(r, m, scale), true);
            model[r] = plain(nearest(new BigDecimal((double) m).toBigInteger(), scale));
        }
        for (int what = 0; what <= 5; what++) {
            operation(at, what, 2, 0, 1);
        }
    }

    private void step(int registers, String at) {
        int to = random.nextInt(registers);
        int a = random.nextInt(registers);
        int b = random.nextInt(registers);
        int choice = random.nextInt(100);
        if (choice < 12) {
            put(at, to);
        } else if (choice < 28) {
            real(at, to);
        } else if (choice < 31) {
            int kind = 3 + random.nextInt(3);
            check.due(at + "special", x.special(to, kind), true);
            model[to] = kind == 3 ? Double.POSITIVE_INFINITY
                : kind == 4 ? Double.NEGATIVE_INFINITY : Double.NaN;
        } else if (choice < 80) {
            operation(at, random.nextInt(18), to, a, b);
        } else if (choice < 92) {
            compare(at, a, b);
        } else {
            row(at, registers, to, a);
        }
        value(at, to);
    }

    private void put(String at, int to) {
        long v = number();
        check.due(at + "whole", x.whole(to, v), true);
        model[to] = v;
    }

    private long number() {
        switch (random.nextInt(4)) {
            case 0:
                return NUMBERS[random.nextInt(NUMBERS.length)];
            case 1:
                return random.nextInt(41) - 20;
            case 2:
                return random.nextLong() >> random.nextInt(64);
            default:
                return (1L << random.nextInt(63)) + (random.nextBoolean() ? 1L : -1L) * (1L << random.nextInt(63));
        }
    }

    private void real(String at, int to) {
        long m = number();
        int e;
        switch (random.nextInt(3)) {
            case 0:
                e = SCALES[random.nextInt(SCALES.length)];
                break;
            case 1:
                e = random.nextInt(130) - 65;
                break;
            default:
                e = random.nextInt(2401) - 1200;
                break;
        }
        check.due(at + "real", x.real(to, m, e), true);
        model[to] = plain(nearest(new BigDecimal((double) m).toBigInteger(), e));
    }

    /** The nearest of m * 2^e, by the words of the document. */
    private static double nearest(BigInteger m, int e) {
        if (m.signum() == 0) {
            return 0.0;
        }
        BigInteger size = m.abs();
        int unit = Math.max(size.bitLength() + e - 53, -1074);
        BigInteger kept;
        if (unit <= e) {
            kept = size.shiftLeft(e - unit);
        } else {
            kept = size.shiftRight(unit - e);
            BigInteger twice = size.subtract(kept.shiftLeft(unit - e)).shiftLeft(1);
            int order = twice.compareTo(BigInteger.ONE.shiftLeft(unit - e));
            if (order > 0 || (order == 0 && kept.testBit(0))) {
                kept = kept.add(BigInteger.ONE);
            }
        }
        // Scaled in two steps: 2^unit itself may be no double, and no step rounds any more.
        double result = kept.bitLength() + unit > 1024
            ? Double.POSITIVE_INFINITY
            : kept.doubleValue() * power(unit / 2) * power(unit - unit / 2);
        return m.signum() < 0 ? -result : result;
    }

    private static double power(int e) {
        return Double.longBitsToDouble((long) (e + 1023) << 52);
    }

    private static double plain(double d) {
        return d == 0 ? 0.0 : d;
    }

    private static double real(Object v) {
        return v instanceof Long ? (double) (Long) v : (Double) v;
    }

    private static boolean isBits(Object v) {
        if (v instanceof Long) {
            return true;
        }
        double d = (Double) v;
        return d == Math.rint(d) && d >= -0x1p63 && d < 0x1p63;
    }

    private static long bits(Object v) {
        return v instanceof Long ? (Long) v : (long) (double) (Double) v;
    }

    private void operation(String at, int what, int to, int a, int b) {
        Object result = result(what, model[a], model[b]);
        String call = at + "operate " + what + " of " + model[a] + " and " + model[b];
        if (result instanceof Integer) {
            check.due(call, x.operate(what, to, a, b), (Integer) result);
        } else {
            check.due(call, x.operate(what, to, a, b), 0);
            model[to] = result instanceof Double ? (Object) plain((Double) result) : result;
            value(call, to);
        }
    }

    /** A Long or a Double, or the error as an Integer. */
    private static Object result(int what, Object a, Object b) {
        boolean wholes = a instanceof Long && b instanceof Long;
        switch (what) {
            case 0:
                return wholes ? (Object) ((Long) a + (Long) b) : (Object) (real(a) + real(b));
            case 1:
                return wholes ? (Object) ((Long) a - (Long) b) : (Object) (real(a) - real(b));
            case 2:
                return wholes ? (Object) ((Long) a * (Long) b) : (Object) (real(a) * real(b));
            case 3:
                return quotient(real(a), real(b));
            case 4:
                if (wholes) {
                    return (Long) b == 0 ? (Object) 1 : (Object) floorDiv((Long) a, (Long) b)[0];
                }
                return Math.floor(quotient(real(a), real(b)));
            case 5:
                if (wholes) {
                    return (Long) b == 0 ? (Object) 1 : (Object) floorDiv((Long) a, (Long) b)[1];
                }
                return remainder(real(a), real(b));
            case 6:
                return power(real(a), b);
            case 7: case 8: case 9: case 10: case 11:
                return isBits(a) && isBits(b) ? (Object) combined(what, bits(a), bits(b)) : (Object) 2;
            case 12:
                return a instanceof Long ? (Object) (-(Long) a) : (Object) (0 - real(a));
            case 13:
                return isBits(a) ? (Object) (~bits(a)) : (Object) 2;
            case 14:
                if (a instanceof Long) {
                    return a;
                }
                double floor = Math.floor(real(a));
                return isBits(floor) ? (Object) bits(floor) : (Object) floor;
            case 15:
                return real(a);
            case 16:
                return isBits(a) ? (Object) bits(a) : (Object) 2;
            default:
                return a instanceof Long ? (Object) Math.abs((Long) a) : (Object) Math.abs(real(a));
        }
    }

    // The model's zero has always the sign +, so the machine's division by it has the right sign.
    private static double quotient(double a, double b) {
        return plain(a) / plain(b);
    }

    private static long[] floorDiv(long a, long b) {
        BigInteger[] both = BigInteger.valueOf(a).divideAndRemainder(BigInteger.valueOf(b));
        if (both[1].signum() != 0 && both[1].signum() != Long.signum(b)) {
            both[0] = both[0].subtract(BigInteger.ONE);
            both[1] = both[1].add(BigInteger.valueOf(b));
        }
        return new long[] {both[0].longValue(), both[1].longValue()};
    }

    private static double remainder(double a, double b) {
        if (Double.isNaN(a) || Double.isNaN(b) || Double.isInfinite(a) || b == 0) {
            return Double.NaN;
        }
        if (Double.isInfinite(b)) {
            return a == 0 || a > 0 == b > 0 ? a : b;
        }
        double f = a % b;
        return f == 0 || f > 0 == b > 0 ? f : f + b;
    }

    private static Object power(double a, Object b) {
        if (!isBits(b) || bits(b) < -65536 || bits(b) > 65536) {
            return 3;
        }
        double p = 1;
        long left = Math.abs(bits(b));
        while (left > 0) {
            if (left % 2 == 1) {
                p = plain(p * a);
            }
            left /= 2;
            a = plain(a * a);
        }
        return bits(b) < 0 ? 1 / p : p;
    }

    private static long combined(int what, long a, long b) {
        switch (what) {
            case 7:
                return a & b;
            case 8:
                return a | b;
            case 9:
                return a ^ b;
            default:
                BigInteger unsigned = new BigInteger(Long.toUnsignedString(a));
                if (b >= 64 || b <= -64) {
                    return 0;
                }
                return unsigned.shiftLeft((int) (what == 10 ? b : -b)).longValue();
        }
    }

    private static BigDecimal exact(Object v) {
        return v instanceof Long ? new BigDecimal((Long) v) : new BigDecimal((Double) v);
    }

    private static int order(Object a, Object b) {
        if (Double.isInfinite(real(a)) || Double.isInfinite(real(b))) {
            return Double.compare(real(a), real(b));
        }
        return exact(a).compareTo(exact(b));
    }

    private void compare(String at, int a, int b) {
        boolean none = Double.isNaN(real(model[a])) || Double.isNaN(real(model[b]));
        int order = none ? 2 : order(model[a], model[b]);
        String call = at + "compare " + model[a] + " with " + model[b];
        check.due(call, x.compare(0, a, b), order == 0 ? 1 : 0);
        check.due(call, x.compare(1, a, b), order < 0 ? 1 : 0);
        check.due(call, x.compare(2, a, b), order <= 0 ? 1 : 0);
    }

    private void row(String at, int registers, int to, int other) {
        int from = random.nextInt(registers);
        int n = random.nextInt(registers - from + 1);
        int choice = random.nextInt(5);
        if (choice < 2) {
            check.due(at + "sum", x.sum(to, from, n), true);
            model[to] = polynomial(0L, from, n, true);
        } else if (choice < 4) {
            check.due(at + "polynomial", x.polynomial(to, other, from, n), true);
            model[to] = polynomial(model[other], from, n, false);
        } else {
            check.due(at + "sort", x.sort(from, n), true);
            java.util.Arrays.sort(model, from, from + n, OracleTest::sorted);
            all(at + "after a sort, ");
        }
    }

    // Arrays.sort of objects keeps the order of equal ones.
    private static int sorted(Object a, Object b) {
        boolean aNone = Double.isNaN(real(a));
        boolean bNone = Double.isNaN(real(b));
        return aNone || bNone ? Boolean.compare(aNone, bNone) : order(a, b);
    }

    private Object polynomial(Object at, int from, int n, boolean isSum) {
        Object total = 0L;
        for (int i = 0; i < n; i++) {
            Object next = model[isSum ? from + i : from + n - 1 - i];
            if (!isSum) {
                total = result(2, total, at);
            }
            total = result(0, total, next);
        }
        return total instanceof Double ? (Object) plain((Double) total) : total;
    }

    private void all(String at) {
        for (int r = 0; r < 32; r++) {
            value(at, r);
        }
    }

    private void value(String at, int r) {
        Object v = model[r];
        String call = at + " with " + v;
        if (v instanceof Long) {
            check.value(call, x, r, 1, (Long) v, 0);
            return;
        }
        double d = (Double) v;
        if (Double.isNaN(d)) {
            check.value(call, x, r, 5, 0, 0);
        } else if (Double.isInfinite(d)) {
            check.value(call, x, r, d > 0 ? 3 : 4, 0, 0);
        } else if (d == 0) {
            check.value(call, x, r, 2, 0, 0);
        } else {
            finite(call, r, d);
        }
    }

    private void finite(String call, int r, double d) {
        long raw = Double.doubleToLongBits(d);
        int high = (int) (raw >>> 52) & 2047;
        long m = raw & ((1L << 52) - 1);
        int e = high == 0 ? -1074 : high - 1075;
        if (high != 0) {
            m |= 1L << 52;
        }
        while (m % 2 == 0 && e < 971) {
            m /= 2;
            e++;
        }
        check.value(call, x, r, 2, d < 0 ? -m : m, e);
    }
}
