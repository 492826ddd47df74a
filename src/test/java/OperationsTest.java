/** The document's OPERATIONS 0 to 17: a test for each bound and each error that is named there. */
public final class OperationsTest {
    private static final int DIVISOR_ERROR = 1;
    private static final int BITS_ERROR = 2;
    private static final int POWER_ERROR = 3;
    private static final long MIN = Check.MIN;
    private static final long MAX = Check.MAX;
    private static final String GREATEST = Check.GREATEST;
    private static final String LOWEST = Check.LOWEST;
    private static final String LEAST = Check.LEAST;
    private static final String NEXT_BELOW_MIN = "-4503599627370497r11";

    // The values that count as no whole number of 64 bits.
    private static final String[] NO_BITS = {"1r-1", "-1r-1", "3r-2", "9007199254740991r-1", LEAST, "-1r-1074",
        "1r63", "1r64", "-1r64", NEXT_BELOW_MIN, "1r127", "1r128", "-1r127", "1r1023", GREATEST, LOWEST,
        "+inf", "-inf", "none"};

    private static final String[] MANY_PLACES = {"64", "65", "127", "128", "4294967296", "4294967297",
        "" + (1L << 62), "" + MAX};
    private static final String[] MANY_PLACES_BACK = {"-64", "-65", "-128", "-4294967296", "-4294967295",
        "" + (MIN + 1), "" + MIN};

    private static final Check check = new Check();

    public static void main(String[] args) {
        wholeOrReal();
        divide();
        wholeQuotient();
        realQuotient();
        wholeRemainder();
        remainderNoNumber();
        remainderByInfinity();
        realRemainder();
        powerOfReals();
        powerErrors();
        power();
        bitsOfWhole();
        bitsOfReal();
        left();
        right();
        negative();
        not();
        floor();
        asReal();
        asWhole();
        size();
        withoutB();
        check.end("OperationsTest");
    }

    private static void wholeOrReal() {
        check.sentence("0 a + b, 1 a - b, 2 a * b: whole when both are whole, else both as reals");
        check.operation(0, "6", "2", "8");
        check.operation(0, "6", "2r0", "1r3");
        check.operation(0, "6r0", "2", "1r3");
        check.operation(0, "6r0", "2r0", "1r3");
        check.operation(1, "6", "2", "4");
        check.operation(1, "6", "2r0", "1r2");
        check.operation(1, "6r0", "2", "1r2");
        check.operation(1, "6r0", "2r0", "1r2");
        check.operation(2, "6", "2", "12");
        check.operation(2, "6", "2r0", "3r2");
        check.operation(2, "6r0", "2", "3r2");
        check.operation(2, "6r0", "2r0", "3r2");
        check.operation(2, "0", "5r0", "0r0");
        // As reals nothing wraps, and whole numbers lose bits beyond 53.
        check.operation(0, "" + MAX, "1r0", "1r63");
        check.operation(1, "" + MIN, "1r0", "-1r63");
        check.operation(2, "" + MAX, "" + MAX + "r0", "1r126");
        check.operation(1, "9007199254740993", "1r53", "0r0");
    }

    private static void divide() {
        check.sentence("3 a / b: both as reals");
        check.operation(3, "6", "3", "1r1");
        check.operation(3, "7", "2", "7r-1");
        check.operation(3, "7", "2r0", "7r-1");
        check.operation(3, "7r0", "2", "7r-1");
        check.operation(3, "-7r0", "2r0", "-7r-1");
        check.operation(3, "" + MAX, "" + MAX, "1r0");
        check.operation(3, "" + MAX, "" + MIN, "-1r0");
        check.operation(3, "" + MIN, "-1", "1r63");
        check.operation(3, "9007199254740993", "1", "1r53");
    }

    private static void wholeQuotient() {
        check.sentence("4 QUOTIENT: when both are whole: a / b rounded down (wrapping)");
        check.operation(4, "7", "2", "3");
        check.operation(4, "-7", "2", "-4");
        check.operation(4, "7", "-2", "-4");
        check.operation(4, "-7", "-2", "3");
        check.operation(4, "6", "-2", "-3");
        check.operation(4, "-6", "2", "-3");
        check.operation(4, "1", "" + MIN, "-1");
        check.operation(4, "-1", "" + MAX, "-1");
        check.operation(4, "0", "-5", "0");
        check.operation(4, "" + MAX, "1", "" + MAX);
        check.operation(4, "" + MIN, "" + MAX, "-2");
        check.operation(4, "" + MIN, "-1", "" + MIN);
        check.sentence("4 QUOTIENT: when both are whole: ERROR 1 when b is 0");
        for (String a : new String[] {"5", "0", "-5", "" + MIN, "" + MAX}) {
            check.error(4, a, "0", DIVISOR_ERROR);
        }
    }

    private static void realQuotient() {
        check.sentence("4 QUOTIENT: else, as reals: a / b (as 3), rounded down to a real that is whole");
        check.operation(4, "7r0", "2", "3r0");
        check.operation(4, "-7", "2r0", "-1r2");
        check.operation(4, "7r0", "-2r0", "-1r2");
        check.operation(4, "-7r0", "-2", "3r0");
        check.operation(4, "6r0", "-2", "-3r0");
        check.operation(4, "1", "1r-2", "1r2");
        check.operation(4, LEAST, "1r0", "0r0");
        check.operation(4, "-1r-1074", "1r0", "-1r0");
        check.operation(4, "1r-1", "1", "0r0");
        check.operation(4, "-1r-1", "1", "-1r0");
        check.operation(4, "-1r-63", "1", "-1r0");
        check.operation(4, "-1r-64", "1", "-1r0");
        check.operation(4, "-1r-65", "1", "-1r0");
        check.operation(4, "9007199254740991r-1", "1", "4503599627370495r0");
        check.operation(4, "-9007199254740991r-1", "1", "-1r52");
        check.operation(4, "1r1000", "1", "536870912r971");
        check.operation(4, LOWEST, "1", LOWEST);
        // As 3: the nearest of a / b is rounded down, not a / b. 1 by this tenth is less than 10.
        check.operation(4, "1", "3602879701896397r-55", "5r1");
        check.operation(4, "-1r-1074", "3", "0r0");
        check.sentence("4 QUOTIENT: else, as reals: no error when b is 0");
        check.operation(4, "5", "0r0", "+inf");
        check.operation(4, "-5r0", "0", "-inf");
        check.operation(4, "0r0", "0", "none");
        check.operation(4, "0", "0r0", "none");
        check.sentence("4 QUOTIENT: infinities and the no-number stay");
        check.operation(4, "+inf", "2", "+inf");
        check.operation(4, "-inf", "2", "-inf");
        check.operation(4, "-inf", "0", "-inf");
        check.operation(4, "1r1000", "-1r-1000", "-inf");
        check.operation(4, "+inf", "-inf", "none");
        check.operation(4, "none", "3", "none");
        check.operation(4, "3", "none", "none");
        check.operation(4, "0", "none", "none");
        check.operation(4, "-2", "+inf", "0r0");
    }

    private static void wholeRemainder() {
        check.sentence("5 REMAINDER: when both are whole: a less b times the quotient rounded down");
        check.operation(5, "7", "2", "1");
        check.operation(5, "-7", "2", "1");
        check.operation(5, "7", "-2", "-1");
        check.operation(5, "-7", "-2", "-1");
        check.operation(5, "-6", "2", "0");
        check.operation(5, "0", "-5", "0");
        check.operation(5, "" + MIN, "-1", "0");
        check.operation(5, "" + MIN, "" + MAX, "" + (MAX - 1));
        check.operation(5, "" + MAX, "" + MIN, "-1");
        check.operation(5, "1", "" + MIN, "" + (MIN + 1));
        check.operation(5, "-1", "" + MAX, "" + (MAX - 1));
        check.sentence("5 REMAINDER: when both are whole: ERROR 1 when b is 0");
        for (String a : new String[] {"5", "0", "-5", "" + MIN, "" + MAX}) {
            check.error(5, a, "0", DIVISOR_ERROR);
        }
    }

    private static void remainderNoNumber() {
        check.sentence("5 REMAINDER: the no-number when a is an infinity");
        for (String b : new String[] {"3", "-3r0", "0", "0r0", "+inf", "-inf", "none", GREATEST, LEAST}) {
            check.operation(5, "+inf", b, "none");
            check.operation(5, "-inf", b, "none");
        }
        check.sentence("5 REMAINDER: the no-number when b is 0");
        for (String a : new String[] {"5r0", "-5r0", "0r0", LEAST, GREATEST}) {
            check.operation(5, a, "0", "none");
            check.operation(5, a, "0r0", "none");
        }
        check.operation(5, "5", "0r0", "none");
        check.operation(5, "0", "0r0", "none");
        check.sentence("5 REMAINDER: the no-number when one of both is the no-number");
        for (String v : new String[] {"5", "-5r0", "0", "0r0", "+inf", "-inf", "none"}) {
            check.operation(5, v, "none", "none");
            check.operation(5, "none", v, "none");
        }
    }

    private static void remainderByInfinity() {
        check.sentence("5 REMAINDER: a when b is an infinity and a is 0");
        for (String zero : new String[] {"0", "0r0"}) {
            check.operation(5, zero, "+inf", "0r0");
            check.operation(5, zero, "-inf", "0r0");
        }
        check.sentence("5 REMAINDER: a when b is an infinity and a is of its sign");
        check.operation(5, "5", "+inf", "5r0");
        check.operation(5, LEAST, "+inf", LEAST);
        check.operation(5, GREATEST, "+inf", GREATEST);
        check.operation(5, "" + MAX, "+inf", "1r63");
        check.operation(5, "-5", "-inf", "-5r0");
        check.operation(5, "-1r-1074", "-inf", "-1r-1074");
        check.sentence("5 REMAINDER: b when it is of the other sign");
        check.operation(5, "-5", "+inf", "+inf");
        check.operation(5, "-1r-1074", "+inf", "+inf");
        check.operation(5, "5r-3", "-inf", "-inf");
        check.operation(5, GREATEST, "-inf", "-inf");
    }

    private static void realRemainder() {
        check.sentence("5 REMAINDER: f is the exact remainder of the sizes of a and b, with the sign of a");
        check.operation(5, "7r0", "2", "1r0");
        check.operation(5, "-7r0", "-2", "-1r0");
        check.operation(5, "11r-1", "3r-1", "1r0");
        check.operation(5, "3r-2", "1r62", "3r-2");
        check.operation(5, "9007199254740991r0", "1r52", "4503599627370495r0");
        check.operation(5, "1", "3602879701896397r-55", "3602879701896395r-55");
        // Sizes that are far apart.
        check.operation(5, "1r1023", "3", "1r1");
        check.operation(5, GREATEST, "3r-1074", "1r-1073");
        check.operation(5, GREATEST, "9007199254740989r-1074", greatestByPrime());
        check.operation(5, LEAST, GREATEST, LEAST);
        check.operation(5, LEAST, "1r1000", LEAST);
        check.operation(5, "5", "1r60", "5r0");
        for (int e = -66; e < 0; e++) {
            check.operation(5, "9007199254740989r" + e, "9007199254740991r0", "9007199254740989r" + e);
            check.operation(5, "1r" + e, "1r0", "1r" + e);
        }
        for (int e = 0; e <= 66; e++) {
            check.operation(5, "1r" + e, "3r0", e % 2 == 0 ? "1r0" : "1r1");
            check.operation(5, "-1r" + e, "-3r0", e % 2 == 0 ? "-1r0" : "-1r1");
        }
        check.sentence("5 REMAINDER: the result is f when it is 0 or of the sign of b");
        check.operation(5, "-6r0", "2", "0r0");
        check.operation(5, "6r0", "-2", "0r0");
        check.operation(5, "0r0", "-3", "0r0");
        check.operation(5, "0", "3r0", "0r0");
        check.operation(5, LOWEST, LEAST, "0r0");
        check.operation(5, "-5r0", "-3", "-1r1");
        check.operation(5, "5", "3r0", "1r1");
        check.sentence("5 REMAINDER: else the nearest of f + b");
        check.operation(5, "-7r0", "2", "1r0");
        check.operation(5, "7", "-2r0", "-1r0");
        check.operation(5, "-11r-1", "3r-1", "1r-1");
        check.operation(5, "-1r5", "3", "1r0");
        check.operation(5, "1r5", "-3", "-1r0");
        check.operation(5, "1r1023", "-3", "-1r0");
        check.operation(5, "-1r-1074", "1r-1073", LEAST);
        // f + b that is no real: b itself is the nearest, or the even one of two.
        check.operation(5, "-1r-1074", "1r1000", "536870912r971");
        check.operation(5, "1r-1074", "-1", "-1r0");
        check.operation(5, "-1r-1074", GREATEST, GREATEST);
        check.operation(5, "-1r-54", "1", "1r0");
        check.operation(5, "-3r-55", "1", "9007199254740991r-53");
        check.operation(5, "-1", "4503599627370497r1", "1r53");
        check.operation(5, "-1", "4503599627370499r1", "2251799813685249r2");
    }

    // With the library's exact numbers: both are (2^53 - 1) * 2^2045 and a divisor in units of 2^-1074.
    private static String greatestByPrime() {
        java.math.BigInteger a = java.math.BigInteger.valueOf(Check.P53 - 1).shiftLeft(971 + 1074);
        long rest = a.mod(java.math.BigInteger.valueOf(Check.P53 - 3)).longValueExact();
        int zeros = Long.numberOfTrailingZeros(rest);
        return (rest >> zeros) + "r" + (zeros - 1074);
    }

    private static void powerOfReals() {
        check.sentence("6 POWER: both as reals");
        check.operation(6, "3", "2", "9r0");
        check.operation(6, "3", "2r0", "9r0");
        check.operation(6, "3r0", "2", "9r0");
        check.operation(6, "3", "0", "1r0");
        // Whole numbers lose bits beyond 53 before they are raised.
        check.operation(6, "9007199254740993", "1", "1r53");
        check.operation(6, "9007199254740993", "2", "1r106");
        check.operation(6, "9007199254740993", "-2", "1r-106");
        check.operation(6, "" + MAX, "2", "1r126");
        check.operation(6, "" + MAX, "3", "1r189");
        check.operation(6, "" + MIN, "3", "-1r189");
    }

    private static void powerErrors() {
        check.sentence("6 POWER: ERROR 3 when b is no whole number from -65536 to 65536");
        String[] wrong = {"65537", "-65537", "65537r0", "-65537r0", "1r17", "-1r17", "131071r-1", "131073r-1",
            "-131073r-1", "1r-1", "-1r-1", "3r-1", LEAST, "-1r-1074", "" + MIN, "" + MAX, "4294967296", "4294967298",
            "-4294967295", "1r32", "1r63", "-1r63", "1r64", "1r1023", GREATEST, LOWEST, "+inf", "-inf", "none"};
        for (String b : wrong) {
            for (String a : new String[] {"2", "1r0", "0", "+inf", "-inf", "none"}) {
                check.error(6, a, b, POWER_ERROR);
            }
        }
        check.operation(6, "1", "65536", "1r0");
        check.operation(6, "-1", "65535", "-1r0");
        check.operation(6, "-1", "-65535", "-1r0");
        check.operation(6, "-1", "-65536", "1r0");
        check.operation(6, "1", "1r16", "1r0");
        check.operation(6, "-1", "-1r16", "1r0");
        check.operation(6, "-1", "-65535r0", "-1r0");
        check.operation(6, "2", "65536", "+inf");
        check.operation(6, "2", "-65536", "0r0");
        check.operation(6, "0", "65536", "0r0");
        check.operation(6, "0", "-65536", "+inf");
        // Each bit of the size of b counts: 1 + 2^-17 raised, as the machine's doubles have it.
        for (int b : new int[] {65535, 65534, 43690, 21845, 32768, 65536, -65535, -65536}) {
            check.operation(6, "131073r-17", "" + b, powerOf(131073.0 / 131072, b));
        }
        check.sentence("6 POWER: the no-number in a is no error");
        check.operation(6, "none", "1", "none");
        check.operation(6, "none", "-1", "none");
        check.operation(6, "none", "65536", "none");
        check.operation(6, "none", "0", "1r0");
        check.operation(6, "none", "0r0", "1r0");
    }

    private static String powerOf(double a, int b) {
        double p = 1;
        for (int left = Math.abs(b); left > 0; left >>= 1) {
            p = left % 2 == 1 ? p * a : p;
            a = a * a;
        }
        return text(b < 0 ? 1 / p : p);
    }

    // For doubles that are not 0, neither very small nor very great.
    private static String text(double d) {
        int e = Math.getExponent(d) - 52;
        long m = (long) Math.scalb(d, -e);
        int zeros = Long.numberOfTrailingZeros(m);
        return (m >> zeros) + "r" + (e + zeros);
    }

    private static void power() {
        check.sentence("6 POWER: p is 1; for the bits of the size of b, from the lowest on ..");
        for (String a : new String[] {"0", "0r0", "5", "-5r-1", "+inf", "-inf", GREATEST, "" + MIN}) {
            check.operation(6, a, "0", "1r0");
            check.operation(6, a, "0r0", "1r0");
        }
        check.operation(6, "2", "10", "1r10");
        check.operation(6, "2", "1r2", "1r4");
        check.operation(6, "-3", "3", "-27r0");
        check.operation(6, "-3r0", "2r0", "9r0");
        check.operation(6, "10", "22", "2384185791015625r22");
        // 0.1 raised to 7: the order of the products can be seen in the last bits.
        check.operation(6, "3602879701896397r-55", "7", text(0.1 * (0.1 * 0.1) * ((0.1 * 0.1) * (0.1 * 0.1))));
        check.operation(6, "3602879701896397r-55", "11", powerOf(0.1, 11));
        check.operation(6, "3602879701896397r-55", "23", powerOf(0.1, 23));
        check.operation(6, "-inf", "3", "-inf");
        check.operation(6, "-inf", "2", "+inf");
        check.operation(6, "0", "3", "0r0");
        check.operation(6, "1r-1", "1074", LEAST);
        check.operation(6, "1r-1", "1075", "0r0");
        check.sentence("6 POWER: as long as there are more bits, a becomes a * a");
        // 2^512 squared once more would be an infinity: it must not come into the result.
        check.operation(6, "2", "512", "1r512");
        check.operation(6, "1r512", "1", "1r512");
        check.operation(6, "1r-538", "-1", "1r538");
        check.sentence("6 POWER: 1 / p (as 3) when b is less than 0");
        check.operation(6, "2", "-1", "1r-1");
        check.operation(6, "7r0", "-2", "5882252574524729r-58");
        check.operation(6, "-2", "-3", "-1r-3");
        check.operation(6, "0", "-1", "+inf");
        check.operation(6, "0r0", "-3", "+inf");
        check.operation(6, "+inf", "-1", "0r0");
        check.operation(6, "-inf", "-3", "0r0");
        // 2^1074 is beyond the reals, so 1 by it is 0, though 2^-1074 is a real.
        check.operation(6, "2", "-1074", "0r0");
        check.operation(6, "2", "-1023", "1r-1023");
        check.operation(6, "1r-1", "-1074", "+inf");
    }

    private static void bitsOfWhole() {
        check.sentence("7 AND, 8 OR, 9 EXCLUSIVE OR: of the 64 bits of whole numbers");
        check.operation(7, "12", "10", "8");
        check.operation(8, "12", "10", "14");
        check.operation(9, "12", "10", "6");
        check.operation(7, "" + MIN, "-1", "" + MIN);
        check.operation(7, "" + MIN, "" + MAX, "0");
        check.operation(8, "" + MIN, "" + MAX, "-1");
        check.operation(9, "" + MIN, "-1", "" + MAX);
        check.operation(9, "-1", "-1", "0");
    }

    private static void bitsOfReal() {
        check.sentence("7 to 11: a real that is whole and from -2^63 to less than 2^63 counts as that whole number");
        String[][] pairs = {{"0r0", "0"}, {"1r0", "1"}, {"-1r0", "-1"}, {"3r2", "12"}, {"1r62", "" + (1L << 62)},
            {"-1r62", "" + -(1L << 62)}, {"-1r63", "" + MIN}, {"9007199254740991r10", "" + (MAX - 1023)},
            {"-9007199254740991r10", "" + (MIN + 1024)}, {"1r53", "" + Check.P53}};
        for (String[] pair : pairs) {
            check.operation(7, pair[0], "-1", pair[1]);
            check.operation(7, "-1", pair[0], pair[1]);
            check.operation(8, pair[0], "0r0", pair[1]);
            check.operation(9, "0r0", pair[0], pair[1]);
            check.operation(10, pair[0], "0", pair[1]);
            check.operation(11, pair[0], "0r0", pair[1]);
        }
        check.operation(10, "3", "1r1", "12");
        check.operation(10, "-1", "1r6", "0");
        check.operation(10, "-1", "63r0", "" + MIN);
        check.operation(11, "-1", "63r0", "1");
        check.operation(11, "-1", "-63r0", "" + MIN);
        check.operation(10, "-1", "-1r63", "0");
        check.operation(11, "-1", "-1r63", "0");
        check.sentence("7 to 11: ERROR 2 for any other value");
        for (String v : NO_BITS) {
            for (int what = 7; what <= 11; what++) {
                check.error(what, v, "1", BITS_ERROR);
                check.error(what, "1", v, BITS_ERROR);
                check.error(what, "0", v, BITS_ERROR);
                check.error(what, v, v, BITS_ERROR);
            }
        }
    }

    private static void left() {
        check.sentence("10 LEFT by b is: b from 0 to 63 places left, zeros coming in");
        check.operation(10, "3", "4", "48");
        check.operation(10, "-1", "0", "-1");
        check.operation(10, "-1", "1", "-2");
        check.operation(10, "-1", "62", "" + (-1L << 62));
        check.operation(10, "-1", "63", "" + MIN);
        check.operation(10, "2", "63", "0");
        check.operation(10, "" + MIN, "1", "0");
        check.sentence("10 LEFT: 0 when b is 64 or more");
        for (String b : MANY_PLACES) {
            check.operation(10, "-1", b, "0");
        }
        check.sentence("10 LEFT: RIGHT by -b when b is less than 0");
        check.operation(10, "48", "-4", "3");
        check.operation(10, "-1", "-1", "" + MAX);
        check.operation(10, "-1", "-63", "1");
        check.operation(10, "" + MIN, "-63", "1");
        check.sentence("10 LEFT: 0 when it is -64 or less");
        for (String b : MANY_PLACES_BACK) {
            check.operation(10, "-1", b, "0");
        }
    }

    private static void right() {
        check.sentence("11 RIGHT likewise the other way, zeros coming in from above");
        check.operation(11, "48", "4", "3");
        check.operation(11, "-1", "0", "-1");
        check.operation(11, "-1", "1", "" + MAX);
        check.operation(11, "-1", "62", "3");
        check.operation(11, "-1", "63", "1");
        check.operation(11, "" + MIN, "63", "1");
        check.sentence("11 RIGHT: 0 when b is 64 or more");
        for (String b : MANY_PLACES) {
            check.operation(11, "-1", b, "0");
        }
        check.sentence("11 RIGHT: LEFT by -b when b is less than 0");
        check.operation(11, "3", "-4", "48");
        check.operation(11, "-1", "-1", "-2");
        check.operation(11, "-1", "-63", "" + MIN);
        check.sentence("11 RIGHT: 0 when b is -64 or less");
        for (String b : MANY_PLACES_BACK) {
            check.operation(11, "-1", b, "0");
        }
    }

    private static void negative() {
        check.sentence("12 NEGATIVE: 0 - a, whole when a is whole (wrapping)");
        check.operation(12, "5", "0", "-5");
        check.operation(12, "-5", "0", "5");
        check.operation(12, "0", "0", "0");
        check.operation(12, "" + MAX, "0", "" + (MIN + 1));
        check.operation(12, "" + MIN, "0", "" + MIN);
        check.sentence("12 NEGATIVE: else as a real");
        check.operation(12, "-5r-1", "0", "5r-1");
        check.operation(12, "-1r63", "0", "1r63");
        check.operation(12, "0r0", "0", "0r0");
        check.operation(12, GREATEST, "0", LOWEST);
        check.operation(12, LEAST, "0", "-1r-1074");
        check.operation(12, "+inf", "0", "-inf");
        check.operation(12, "-inf", "0", "+inf");
        check.operation(12, "none", "0", "none");
    }

    private static void not() {
        check.sentence("13 NOT: all bits of a turned round");
        check.operation(13, "0", "0", "-1");
        check.operation(13, "-1", "0", "0");
        check.operation(13, "5", "0", "-6");
        check.operation(13, "" + MIN, "0", "" + MAX);
        check.operation(13, "" + MAX, "0", "" + MIN);
        check.operation(13, "-1r63", "0", "" + MAX);
        check.operation(13, "9007199254740991r10", "0", "" + ~(MAX - 1023));
        check.operation(13, "0r0", "0", "-1");
        check.sentence("13 NOT: ERROR 2 as above");
        for (String v : NO_BITS) {
            check.error(13, v, "1", BITS_ERROR);
        }
    }

    private static void floor() {
        check.sentence("14 FLOOR: the greatest whole number that is not above a: as a whole number when it is one");
        for (String v : new String[] {"0", "5", "-5", "" + MIN, "" + MAX, "9007199254740993"}) {
            check.operation(14, v, "0", v);
        }
        check.operation(14, "5r-1", "0", "2");
        check.operation(14, "-5r-1", "0", "-3");
        check.operation(14, "3r0", "0", "3");
        check.operation(14, "-3r0", "0", "-3");
        check.operation(14, LEAST, "0", "0");
        check.operation(14, "-1r-1074", "0", "-1");
        check.operation(14, "9007199254740991r-53", "0", "0");
        check.operation(14, "-9007199254740991r-53", "0", "-1");
        check.operation(14, "-9007199254740991r-52", "0", "-2");
        check.operation(14, "-1r-63", "0", "-1");
        check.operation(14, "-1r-64", "0", "-1");
        check.operation(14, "0r0", "0", "0");
        check.operation(14, "9007199254740991r-1", "0", "4503599627370495");
        check.operation(14, "-9007199254740991r-1", "0", "-4503599627370496");
        check.operation(14, "1r62", "0", "" + (1L << 62));
        check.operation(14, "9007199254740991r10", "0", "" + (MAX - 1023));
        check.operation(14, "-1r63", "0", "" + MIN);
        check.sentence("14 FLOOR: else as a real");
        check.operation(14, "1r63", "0", "1r63");
        check.operation(14, NEXT_BELOW_MIN, "0", NEXT_BELOW_MIN);
        check.operation(14, "1r64", "0", "1r64");
        check.operation(14, "-1r64", "0", "-1r64");
        check.operation(14, "3r126", "0", "3r126");
        check.operation(14, GREATEST, "0", GREATEST);
        check.operation(14, LOWEST, "0", LOWEST);
        check.sentence("14 FLOOR: an infinity and the no-number stay");
        check.operation(14, "+inf", "0", "+inf");
        check.operation(14, "-inf", "0", "-inf");
        check.operation(14, "none", "0", "none");
    }

    private static void asReal() {
        check.sentence("15 AS A REAL");
        check.operation(15, "6", "0", "3r1");
        check.operation(15, "0", "0", "0r0");
        check.operation(15, "" + MIN, "0", "-1r63");
        check.operation(15, "" + MAX, "0", "1r63");
        check.operation(15, "-9007199254740993", "0", "-1r53");
        check.operation(15, "9007199254740995", "0", "2251799813685249r2");
        for (String v : new String[] {"7r-3", "0r0", LEAST, LOWEST, "+inf", "-inf", "none"}) {
            check.operation(15, v, "0", v);
        }
    }

    private static void asWhole() {
        check.sentence("16 AS A WHOLE NUMBER: a real that is whole and from -2^63 to less than 2^63");
        check.operation(16, "" + MAX, "0", "" + MAX);
        check.operation(16, "" + MIN, "0", "" + MIN);
        check.operation(16, "3r2", "0", "12");
        check.operation(16, "-3r2", "0", "-12");
        check.operation(16, "0r0", "0", "0");
        check.operation(16, "-1r63", "0", "" + MIN);
        check.operation(16, "1r62", "0", "" + (1L << 62));
        check.operation(16, "9007199254740991r10", "0", "" + (MAX - 1023));
        check.sentence("16 AS A WHOLE NUMBER: ERROR 2 as above");
        for (String v : NO_BITS) {
            check.error(16, v, "1", BITS_ERROR);
        }
    }

    private static void size() {
        check.sentence("17 SIZE: a, or NEGATIVE of it when it is less than 0");
        check.operation(17, "5", "0", "5");
        check.operation(17, "-5", "0", "5");
        check.operation(17, "0", "0", "0");
        check.operation(17, "" + MAX, "0", "" + MAX);
        check.operation(17, "" + (MIN + 1), "0", "" + MAX);
        check.operation(17, "-5r-1", "0", "5r-1");
        check.operation(17, "5r-1", "0", "5r-1");
        check.operation(17, "0r0", "0", "0r0");
        check.operation(17, "-1r63", "0", "1r63");
        check.operation(17, LOWEST, "0", GREATEST);
        check.operation(17, "-1r-1074", "0", LEAST);
        check.operation(17, "-inf", "0", "+inf");
        check.operation(17, "+inf", "0", "+inf");
        check.operation(17, "none", "0", "none");
        check.sentence("17 SIZE: NEGATIVE wraps");
        check.operation(17, "" + MIN, "0", "" + MIN);
    }

    private static void withoutB() {
        check.sentence("12 to 17 do not look at b");
        for (String b : new String[] {"0", "-1", "0r0", "1r-1", "1r63", "+inf", "-inf", "none"}) {
            check.operation(12, "5", b, "-5");
            check.operation(13, "5", b, "-6");
            check.operation(14, "5r-1", b, "2");
            check.operation(15, "5", b, "5r0");
            check.operation(16, "5r0", b, "5");
            check.operation(17, "-5", b, "5");
            check.error(13, "1r-1", b, BITS_ERROR);
            check.error(16, "none", b, BITS_ERROR);
        }
    }
}
