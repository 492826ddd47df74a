/**
 * The numbers of a small language: whole ones of 64 bits that wrap, and reals of 53 bits with
 * infinities and one value that is no number. All of it is done with whole arithmetic of the
 * machine, so that every real is rounded by the one rule in {@link Value#setNearest}.
 */
public final class MixedNumbers {
    public static final int BAD = -1;

    private static final int REGISTERS = 32;
    private static final int LEAST_SCALE = -1200;
    private static final int GREATEST_SCALE = 1200;
    private static final int GREATEST_POWER = 65536;

    private static final int WHOLE = 1;
    private static final int REAL = 2;
    private static final int PLUS_INFINITY = 3;
    private static final int MINUS_INFINITY = 4;
    private static final int NO_NUMBER = 5;

    private static final int ADD = 0;
    private static final int SUBTRACT = 1;
    private static final int MULTIPLY = 2;
    private static final int DIVIDE = 3;
    private static final int QUOTIENT = 4;
    private static final int REMAINDER = 5;
    private static final int POWER = 6;
    private static final int AND = 7;
    private static final int OR = 8;
    private static final int EXCLUSIVE_OR = 9;
    private static final int LEFT = 10;
    private static final int RIGHT = 11;
    private static final int NEGATIVE = 12;
    private static final int NOT = 13;
    private static final int FLOOR = 14;
    private static final int AS_REAL = 15;
    private static final int AS_WHOLE = 16;
    private static final int SIZE = 17;

    private static final int EQUAL = 0;
    private static final int LESS = 1;
    private static final int LESS_OR_EQUAL = 2;

    private static final int DONE = 0;
    private static final int DIVISOR_ERROR = 1;
    private static final int BITS_ERROR = 2;
    private static final int POWER_ERROR = 3;

    private final Value[] registers;
    // Made once and used by every call, so that calls make no objects. An operation changes its
    // first operand into the result: working on copies keeps the registers as they were on errors.
    private final Value first;
    private final Value second;
    private final Value spare;

    public MixedNumbers() {
        registers = new Value[REGISTERS];
        for (int r = 0; r < REGISTERS; r++) {
            registers[r] = new Value();
        }
        first = new Value();
        second = new Value();
        spare = new Value();
    }

    public boolean whole(int r, long v) {
        if (!isRegister(r)) {
            return false;
        }
        registers[r].setWhole(v);
        return true;
    }

    public boolean real(int r, long m, int e) {
        if (!isRegister(r) || e < LEAST_SCALE || e > GREATEST_SCALE) {
            return false;
        }
        // The document rounds twice: first m, then what comes of the scaling.
        first.setReal(m, 0);
        first.setReal(first.number, first.exponent + e);
        registers[r].become(first);
        return true;
    }

    public boolean special(int r, int kind) {
        if (!isRegister(r) || kind < PLUS_INFINITY || kind > NO_NUMBER) {
            return false;
        }
        registers[r].setSpecial(kind);
        return true;
    }

    public int operate(int what, int to, int a, int b) {
        if (!isRegister(to) || !isRegister(a) || !isRegister(b) || what < ADD || what > SIZE) {
            return BAD;
        }
        first.become(registers[a]);
        second.become(registers[b]);
        int error;
        if (what <= MULTIPLY) {
            error = addOrMultiply(what);
        } else if (what <= REMAINDER) {
            error = divideOrRemain(what);
        } else if (what == POWER) {
            error = power();
        } else if (what <= RIGHT) {
            error = combineBits(what);
        } else {
            error = applyToOne(what);
        }
        if (error == DONE) {
            registers[to].become(first);
        }
        return error;
    }

    public int compare(int what, int a, int b) {
        if (!isRegister(a) || !isRegister(b) || what < EQUAL || what > LESS_OR_EQUAL) {
            return BAD;
        }
        Value left = registers[a];
        Value right = registers[b];
        if (left.kind == NO_NUMBER || right.kind == NO_NUMBER) {
            return 0;
        }
        int order = Order.of(left, right);
        boolean holds = order == 0 ? what != LESS : order < 0 && what != EQUAL;
        return holds ? 1 : 0;
    }

    public int kind(int r) {
        return isRegister(r) ? registers[r].kind : BAD;
    }

    public long number(int r) {
        return isRegister(r) ? registers[r].number : 0;
    }

    public int exponent(int r) {
        return isRegister(r) ? registers[r].exponent : 0;
    }

    public boolean sum(int to, int from, int n) {
        if (!isRegister(to) || !isRow(from, n)) {
            return false;
        }
        first.setWhole(0);
        for (int i = 0; i < n; i++) {
            second.become(registers[from + i]);
            addOrMultiply(ADD);
        }
        registers[to].become(first);
        return true;
    }

    public boolean polynomial(int to, int x, int from, int n) {
        if (!isRegister(to) || !isRegister(x) || !isRow(from, n)) {
            return false;
        }
        first.setWhole(0);
        for (int i = n - 1; i >= 0; i--) {
            second.become(registers[x]);
            addOrMultiply(MULTIPLY);
            second.become(registers[from + i]);
            addOrMultiply(ADD);
        }
        registers[to].become(first);
        return true;
    }

    public boolean sort(int from, int n) {
        if (!isRow(from, n)) {
            return false;
        }
        for (int i = from + 1; i < from + n; i++) {
            insert(from, i);
        }
        return true;
    }

    private static boolean isRegister(int r) {
        return r >= 0 && r < REGISTERS;
    }

    private static boolean isRow(int from, int n) {
        // Not from + n, which could wrap around.
        return from >= 0 && from <= REGISTERS && n >= 0 && n <= REGISTERS - from;
    }

    /** Moves a register down to its place among the sorted ones, which begin at from. */
    private void insert(int from, int place) {
        Value moved = registers[place];
        int at = place;
        while (at > from && Order.goesBefore(moved, registers[at - 1])) {
            registers[at] = registers[at - 1];
            at--;
        }
        registers[at] = moved;
    }

    private boolean areWhole() {
        return first.kind == WHOLE && second.kind == WHOLE;
    }

    private void makeReals() {
        first.turnReal();
        second.turnReal();
    }

    // The operations change the first operand into what comes of them, or answer the error.

    private int addOrMultiply(int what) {
        if (areWhole()) {
            long a = first.number;
            long b = second.number;
            first.setWhole(what == ADD ? a + b : what == SUBTRACT ? a - b : a * b);
            return DONE;
        }
        makeReals();
        if (what == MULTIPLY) {
            Reals.multiply(first, second);
            return DONE;
        }
        if (what == SUBTRACT) {
            second.negate();
        }
        Reals.add(first, second);
        return DONE;
    }

    private int divideOrRemain(int what) {
        if (what == DIVIDE || !areWhole()) {
            makeReals();
            divideOrRemainReal(what);
            return DONE;
        }
        if (second.number == 0) {
            return DIVISOR_ERROR;
        }
        first.setWhole(what == QUOTIENT
                ? Math.floorDiv(first.number, second.number)
                : Math.floorMod(first.number, second.number));
        return DONE;
    }

    private void divideOrRemainReal(int what) {
        if (what == REMAINDER) {
            Reals.remainder(first, second);
            return;
        }
        Reals.divide(first, second);
        if (what == QUOTIENT) {
            first.roundDown();
        }
    }

    private int power() {
        long times = second.countsAsWhole() ? second.asWhole() : GREATEST_POWER + 1;
        if (times < -GREATEST_POWER || times > GREATEST_POWER) {
            return POWER_ERROR;
        }
        raise((int) (times < 0 ? -times : times));
        if (times < 0) {
            spare.setReal(1, 0);
            Reals.divide(spare, first);
            first.become(spare);
        }
        return DONE;
    }

    /** Every product is rounded, so their order is the document's, from the lowest bit on. */
    private void raise(int times) {
        int bits = 32 - Integer.numberOfLeadingZeros(times);
        spare.become(first);
        spare.turnReal();
        first.setReal(1, 0);
        for (int i = 0; i < bits; i++) {
            if (((times >> i) & 1) == 1) {
                Reals.multiply(first, spare);
            }
            if (i + 1 < bits) {
                Reals.multiply(spare, spare);
            }
        }
    }

    private int combineBits(int what) {
        if (!first.countsAsWhole() || !second.countsAsWhole()) {
            return BITS_ERROR;
        }
        long a = first.asWhole();
        long b = second.asWhole();
        switch (what) {
            case AND:
                first.setWhole(a & b);
                break;
            case OR:
                first.setWhole(a | b);
                break;
            case EXCLUSIVE_OR:
                first.setWhole(a ^ b);
                break;
            case LEFT:
                first.setWhole(shiftLeft(a, b));
                break;
            default:
                // That -b wraps for the least whole number is harmless: both ways give 0 there.
                first.setWhole(shiftLeft(a, -b));
                break;
        }
        return DONE;
    }

    private static long shiftLeft(long bits, long places) {
        if (places <= -64 || places >= 64) {
            return 0;
        }
        return places >= 0 ? bits << places : bits >>> -places;
    }

    private int applyToOne(int what) {
        if ((what == NOT || what == AS_WHOLE) && !first.countsAsWhole()) {
            return BITS_ERROR;
        }
        switch (what) {
            case NEGATIVE:
                first.negate();
                break;
            case NOT:
                first.setWhole(~first.asWhole());
                break;
            case FLOOR:
                first.roundDown();
                if (first.countsAsWhole()) {
                    first.setWhole(first.asWhole());
                }
                break;
            case AS_REAL:
                first.turnReal();
                break;
            case AS_WHOLE:
                first.setWhole(first.asWhole());
                break;
            default:
                if (first.sign() < 0) {
                    first.negate();
                }
                break;
        }
        return DONE;
    }

    /**
     * One value. A real is held with the greatest exponent that it can be written with, so it has
     * one form only, and it is whole just when its exponent is not below 0. Number and exponent
     * are 0 where the document answers 0 for them.
     */
    private static final class Value {
        private static final int PRECISION = 53;
        private static final int LEAST_EXPONENT = -1074;
        private static final int GREATEST_EXPONENT = 971;

        private int kind;
        private long number;
        private int exponent;

        private Value() {
            kind = WHOLE;
            number = 0;
            exponent = 0;
        }

        private void become(Value other) {
            kind = other.kind;
            number = other.number;
            exponent = other.exponent;
        }

        private void setWhole(long v) {
            kind = WHOLE;
            number = v;
            exponent = 0;
        }

        private void setSpecial(int special) {
            kind = special;
            number = 0;
            exponent = 0;
        }

        private void setInfinity(boolean negative) {
            kind = negative ? MINUS_INFINITY : PLUS_INFINITY;
            number = 0;
            exponent = 0;
        }

        private void setZero() {
            kind = REAL;
            number = 0;
            exponent = 0;
        }

        /** The nearest of m * 2^e. */
        private void setReal(long m, int e) {
            setNearest(m < 0, sizeOf(m), false, e);
        }

        /**
         * The nearest of size * 2^unit. The size has no sign; it is less than 2^63, or 2^63 with
         * a unit of 0. With {@code more}, the exact size is above this one by less than 1; it has
         * 55 bits or more then, so that what is above it can only decide a tie.
         */
        private void setNearest(boolean negative, long size, boolean more, int unit) {
            int bits = 64 - Long.numberOfLeadingZeros(size);
            int drop = Math.max(unit + bits - PRECISION, LEAST_EXPONENT) - unit;
            long m = drop > 0 ? dropBits(size, more, drop) : size;
            int e = drop > 0 ? unit + drop : unit;
            if (m == 0) {
                setZero();
            } else if (64 - Long.numberOfLeadingZeros(m) + e > PRECISION + GREATEST_EXPONENT) {
                setInfinity(negative);
            } else {
                int up = Math.min(Long.numberOfTrailingZeros(m), GREATEST_EXPONENT - e);
                m = up >= 0 ? m >>> up : m << -up;
                kind = REAL;
                number = negative ? -m : m;
                exponent = e + up;
            }
        }

        /** Divides a size by 2^drop, drop above 0, to the nearest, a tie going to the even one. */
        private static long dropBits(long size, boolean more, int drop) {
            if (drop > 63) {
                return 0;
            }
            long kept = size >>> drop;
            long rest = size - (kept << drop);
            long half = 1L << (drop - 1);
            boolean up = rest > half || (rest == half && (more || (kept & 1) == 1));
            return up ? kept + 1 : kept;
        }

        private void turnReal() {
            if (kind == WHOLE) {
                setNearest(number < 0, size(), false, 0);
            }
        }

        private void negate() {
            if (isInfinite()) {
                setInfinity(kind == PLUS_INFINITY);
            } else {
                number = -number;
            }
        }

        /** Rounds a real down to one that is whole; all other values stay. */
        private void roundDown() {
            if (kind == REAL && exponent < 0) {
                setReal(floor(), 0);
            }
        }

        /** The whole number below a real, which has to be one of 64 bits. */
        private long floor() {
            return exponent < 0 ? number >> Math.min(-exponent, 63) : number << exponent;
        }

        private boolean countsAsWhole() {
            if (kind != REAL) {
                return kind == WHOLE;
            }
            return exponent >= 0 && exponent <= 63 && (number << exponent) >> exponent == number;
        }

        /** What a value that counts as whole is; the exponent of a whole number is 0. */
        private long asWhole() {
            return number << exponent;
        }

        private int sign() {
            if (isInfinite()) {
                return kind == PLUS_INFINITY ? 1 : -1;
            }
            return Long.signum(number);
        }

        private boolean isInfinite() {
            return kind == PLUS_INFINITY || kind == MINUS_INFINITY;
        }

        private long size() {
            return sizeOf(number);
        }

        /** Without a sign, so that the size of the least whole number, 2^63, is right too. */
        private static long sizeOf(long v) {
            return v < 0 ? -v : v;
        }
    }

    /**
     * Real arithmetic: the first operand becomes the result. Both have to be no whole numbers;
     * they may be the same object but in a remainder.
     */
    private static final class Reals {
        // A sum of two sizes of 62 bits has no more than 63, and 55 are enough to round it.
        private static final int SUM_HEADROOM = 2;
        private static final int DIVISION_HEADROOM = 11;
        // A size of 53 bits can be moved up by 10 before it would reach the sign.
        private static final int STEP = 10;
        private static final int QUOTIENT_STEPS = 6;
        private static final int HALF = 27;
        private static final long HALF_MASK = (1L << HALF) - 1;

        private Reals() {
        }

        private static boolean hasNoNumber(Value a, Value b) {
            return a.kind == NO_NUMBER || b.kind == NO_NUMBER;
        }

        private static void add(Value a, Value b) {
            if (hasNoNumber(a, b)) {
                a.setSpecial(NO_NUMBER);
            } else if (a.isInfinite()) {
                if (b.isInfinite() && a.kind != b.kind) {
                    a.setSpecial(NO_NUMBER);
                }
            } else if (b.isInfinite() || a.number == 0) {
                a.become(b);
            } else if (b.number != 0) {
                if (Order.ofSizes(a, b) >= 0) {
                    addSmaller(a, a, b);
                } else {
                    addSmaller(a, b, a);
                }
            }
        }

        /** For numbers other than 0, the small one not above the great one in size. */
        private static void addSmaller(Value result, Value great, Value small) {
            int room = Long.numberOfLeadingZeros(great.size()) - SUM_HEADROOM;
            int unit = great.exponent - room;
            int smallRoom = Long.numberOfLeadingZeros(small.size()) - SUM_HEADROOM;
            int gap = unit - (small.exponent - smallRoom);
            long addend = small.size() << smallRoom;
            long kept = gap > 63 ? 0 : addend >>> gap;
            boolean lost = gap > 63 || kept << gap != addend;
            long total = great.size() << room;
            if (great.sign() == small.sign()) {
                total += kept;
            } else {
                // What was lost is taken away too: one unit, of which a part comes back as more.
                total -= lost ? kept + 1 : kept;
            }
            result.setNearest(great.number < 0, total, lost, unit);
        }

        private static void multiply(Value a, Value b) {
            if (hasNoNumber(a, b)) {
                a.setSpecial(NO_NUMBER);
                return;
            }
            int sign = a.sign() * b.sign();
            if (!a.isInfinite() && !b.isInfinite()) {
                multiplyFinite(a, b, sign < 0);
            } else if (sign == 0) {
                a.setSpecial(NO_NUMBER);
            } else {
                a.setInfinity(sign < 0);
            }
        }

        /** Makes the product of 106 bits as high * 2^54 + low, then keeps its upper 63 bits. */
        private static void multiplyFinite(Value a, Value b, boolean negative) {
            long aHigh = a.size() >>> HALF;
            long aLow = a.size() & HALF_MASK;
            long bHigh = b.size() >>> HALF;
            long bLow = b.size() & HALF_MASK;
            long middle = aHigh * bLow + aLow * bHigh;
            long low = aLow * bLow + ((middle & HALF_MASK) << HALF);
            long high = aHigh * bHigh + (middle >>> HALF) + (low >>> 2 * HALF);
            low &= (1L << 2 * HALF) - 1;
            int room = Math.min(Long.numberOfLeadingZeros(high) - 1, 2 * HALF);
            int drop = 2 * HALF - room;
            long kept = low >>> drop;
            boolean lost = kept << drop != low;
            a.setNearest(negative, (high << room) + kept, lost, a.exponent + b.exponent + drop);
        }

        private static void divide(Value a, Value b) {
            if (hasNoNumber(a, b) || (a.isInfinite() && b.isInfinite())) {
                a.setSpecial(NO_NUMBER);
            } else if (b.isInfinite()) {
                a.setZero();
            } else if (b.number == 0) {
                divideByZero(a);
            } else if (a.isInfinite()) {
                a.setInfinity(a.sign() != b.sign());
            } else if (a.number != 0) {
                divideFinite(a, b);
            }
        }

        private static void divideByZero(Value a) {
            if (a.sign() == 0) {
                a.setSpecial(NO_NUMBER);
            } else {
                a.setInfinity(a.sign() < 0);
            }
        }

        private static void divideFinite(Value a, Value b) {
            int room = Long.numberOfLeadingZeros(a.size()) - DIVISION_HEADROOM;
            int divisorRoom = Long.numberOfLeadingZeros(b.size()) - DIVISION_HEADROOM;
            long divisor = b.size() << divisorRoom;
            if (divisor == 0) {
                return;
            }
            boolean negative = a.sign() != b.sign();
            int unit = (a.exponent - room) - (b.exponent - divisorRoom) - QUOTIENT_STEPS * STEP;
            long rest = a.size() << room;
            long quotient = rest / divisor;
            rest %= divisor;
            for (int i = 0; i < QUOTIENT_STEPS; i++) {
                rest <<= STEP;
                quotient = (quotient << STEP) + rest / divisor;
                rest %= divisor;
            }
            a.setNearest(negative, quotient, rest != 0, unit);
        }

        private static void remainder(Value a, Value b) {
            if (hasNoNumber(a, b) || a.isInfinite() || b.sign() == 0) {
                a.setSpecial(NO_NUMBER);
            } else if (b.isInfinite()) {
                if (a.sign() == -b.sign()) {
                    a.become(b);
                }
            } else {
                remainderOfSizes(a, b);
                if (a.number != 0 && a.sign() != b.sign()) {
                    addSmaller(a, b, a);
                }
            }
        }

        /** Exact, with the sign of a: it has no more bits than a or b has. */
        private static void remainderOfSizes(Value a, Value b) {
            int gap = a.exponent - b.exponent;
            if (gap >= 0) {
                long rest = remainderAbove(a.size(), gap, b.size());
                a.setNearest(a.number < 0, rest, false, b.exponent);
            } else if (-gap < Long.numberOfLeadingZeros(b.size())) {
                long divisor = b.size() << -gap;
                if (divisor != 0) {
                    a.setNearest(a.number < 0, a.size() % divisor, false, a.exponent);
                }
            }
            // Otherwise b is 2^63 or more in the unit of a, so that a is its own remainder.
        }

        /** The remainder of size * 2^places by the divisor, both of 53 bits. */
        private static long remainderAbove(long size, int places, long divisor) {
            if (divisor == 0) {
                return 0;
            }
            long rest = size % divisor;
            for (int left = places; left > 0; left -= STEP) {
                rest = (rest << Math.min(left, STEP)) % divisor;
            }
            return rest;
        }
    }

    /** How values compare, by their exact sizes: below 0, 0 or above 0, as a is to b. */
    private static final class Order {
        private Order() {
        }

        /** The no-number goes behind all others, and keeps its order among its like. */
        private static boolean goesBefore(Value a, Value b) {
            if (a.kind == NO_NUMBER || b.kind == NO_NUMBER) {
                return a.kind != NO_NUMBER && b.kind == NO_NUMBER;
            }
            return of(a, b) < 0;
        }

        /** Not for the no-number, which has no order. */
        private static int of(Value a, Value b) {
            if (a.isInfinite() || b.isInfinite()) {
                return Integer.compare(infinityOf(a), infinityOf(b));
            }
            if (a.kind == WHOLE) {
                return b.kind == WHOLE ? Long.compare(a.number, b.number) : ofWhole(a.number, b);
            }
            return b.kind == WHOLE ? -ofWhole(b.number, a) : ofReals(a, b);
        }

        private static int infinityOf(Value v) {
            return v.isInfinite() ? v.sign() : 0;
        }

        private static int ofWhole(long whole, Value real) {
            if (real.exponent >= 0 && !real.countsAsWhole()) {
                return -real.sign();
            }
            long floor = real.floor();
            if (whole != floor) {
                return Long.compare(whole, floor);
            }
            return real.exponent < 0 ? -1 : 0;
        }

        private static int ofReals(Value a, Value b) {
            if (a.sign() != b.sign()) {
                return Integer.compare(a.sign(), b.sign());
            }
            return a.sign() == 0 ? 0 : a.sign() * ofSizes(a, b);
        }

        /** Of reals other than 0: by their highest bit, then by the bits from there on. */
        private static int ofSizes(Value a, Value b) {
            int aRoom = Long.numberOfLeadingZeros(a.size()) - 1;
            int bRoom = Long.numberOfLeadingZeros(b.size()) - 1;
            int aUnit = a.exponent - aRoom;
            int bUnit = b.exponent - bRoom;
            if (aUnit != bUnit) {
                return Integer.compare(aUnit, bUnit);
            }
            return Long.compare(a.size() << aRoom, b.size() << bRoom);
        }
    }
}
