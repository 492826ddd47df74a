/** The document's 'Terms' but for the operations: a test for each sentence that names an edge. */
public final class TermsTest {
    private static final long MIN = Check.MIN;
    private static final long MAX = Check.MAX;
    private static final long P53 = Check.P53;
    private static final String GREATEST = Check.GREATEST;
    private static final String LOWEST = Check.LOWEST;
    private static final String LEAST = Check.LEAST;

    private static final String[] ABOVE_ZERO = {LEAST, "1r-1", "1", "5", "3r0", "" + MAX, "1r63", GREATEST};
    private static final String[] BELOW_ZERO = {"-1r-1074", "-1r-1", "-1", "-5", "-3r0", "" + MIN, LOWEST};
    private static final String[] ZEROS = {"0", "0r0"};
    private static final String[] INFINITIES = {"+inf", "-inf"};

    private static final Check check = new Check();

    public static void main(String[] args) {
        wholeBounds();
        boundsOfM();
        boundsOfE();
        severalWays();
        oneZero();
        infinitiesBeyondAll();
        sameSizeOfBothKinds();
        leastFarAway();
        evenOfTwo();
        tooGreat();
        tooSmall();
        wholeAsReal();
        wholeWraps();
        realResultIsNearest();
        infinitiesAdded();
        infinitiesMultiplied();
        infinitiesDivided();
        byInfinity();
        noOneResult();
        byZero();
        zeroByZero();
        noNumberAsOperand();
        check.end("TermsTest");
    }

    private static void wholeBounds() {
        check.sentence("a WHOLE number, -2^63 .. 2^63 - 1");
        for (long v : new long[] {MIN, MIN + 1, -1, 0, 1, MAX - 1, MAX}) {
            MixedNumbers x = new MixedNumbers();
            check.due("whole", x.whole(7, v), true);
            check.has("whole " + v, x, 7, Long.toString(v));
        }
        check.order("" + MIN, "" + MAX, -1);
    }

    private static void boundsOfM() {
        check.sentence("m is from -2^53 to 2^53");
        for (long m : new long[] {P53, P53 - 1, P53 - 2, P53 / 2 + 1, 1, -1, 1 - P53, -P53}) {
            check.order(m + "r0", "" + m, 0);
        }
        check.realIs(P53 - 1, 0, "9007199254740991r0");
        check.realIs(1 - P53, 0, "-9007199254740991r0");
        check.realIs(P53, 0, "1r53");
        check.realIs(-P53, 0, "-1r53");
        // 2^53 + 1 has no m, but 2^53 + 2 has.
        check.order((P53 + 1) + "r0", "" + (P53 + 1), -1);
        check.order("" + (-P53 - 1), (-P53 - 1) + "r0", -1);
        check.order((P53 + 2) + "r0", "" + (P53 + 2), 0);
        check.order((-P53 - 2) + "r0", "" + (-P53 - 2), 0);
    }

    private static void boundsOfE() {
        check.sentence("e from -1074 to 971");
        for (long m : new long[] {1, -1, 3, -3, P53 - 1, 1 - P53}) {
            check.realIs(m, -1074, m + "r-1074");
            check.realIs(m, -1073, m + "r-1073");
            check.realIs(m, 970, m + "r970");
            check.realIs(m, 971, m + "r971");
        }
        // An e of -1075 is none, even where m is small enough.
        check.realIs(3, -1075, "1r-1073");
        check.realIs(-5, -1075, "-1r-1073");
        check.realIs(P53 - 1, -1075, "1r-1022");
        // An e of 972 is none either: what is so great is written with 971 and an even m.
        check.realIs(1, 972, "2r971");
        check.realIs(-3, 973, "-12r971");
        check.realIs(1, 1023, "4503599627370496r971");
        check.realIs(P53, 970, "4503599627370496r971");
        check.realIs(-P53 / 2 - 1, 971, "-4503599627370497r971");
    }

    private static void severalWays() {
        check.sentence("one and the same real may be written so in several ways");
        long[][] ways = {{1, 3}, {2, 2}, {4, 1}, {8, 0}, {16, -1}, {P53, -50}, {1L << 62, -59}};
        for (long[] way : ways) {
            check.realIs(way[0], (int) way[1], "1r3");
            check.realIs(-way[0], (int) way[1], "-1r3");
            check.order(way[0] + "r" + way[1], "1r3", 0);
            check.operation(1, way[0] + "r" + way[1], "1r3", "0r0");
        }
    }

    // However 0 comes about, from above or below, it is the same: 1 by it is plus infinity.
    private static void oneZero() {
        check.sentence("there is one 0 among them");
        check.realIs(0, 0, "0r0");
        check.realIs(0, 971, "0r0");
        check.realIs(0, -1074, "0r0");
        check.realIs(-1, -1200, "0r0");
        zeroComesOf(12, "0r0", "0");
        zeroComesOf(2, "0r0", "-5");
        zeroComesOf(2, "-5r0", "0");
        zeroComesOf(2, "-1r-1074", "1r-1");
        zeroComesOf(3, "-1r-1074", "2");
        zeroComesOf(3, "0", "-5");
        zeroComesOf(3, "-5", "+inf");
        zeroComesOf(3, "5", "-inf");
        zeroComesOf(1, "-3r0", "-3");
        zeroComesOf(0, "-3r0", "3");
        zeroComesOf(4, "0r0", "-5");
        zeroComesOf(5, "-6r0", "3");
        zeroComesOf(5, "6r0", "-3");
        zeroComesOf(5, "0r0", "-inf");
        zeroComesOf(6, "-inf", "-3");
        zeroComesOf(6, "-1r-1000", "3");
        zeroComesOf(17, "0r0", "0");
        check.order("0r0", "0r5", 0);
    }

    private static void zeroComesOf(int what, String a, String b) {
        check.operation(what, a, b, "0r0");
        MixedNumbers x = check.row(0, a, b, "1");
        x.operate(what, 4, 0, 1);
        check.due("1 by 0", x.operate(3, 5, 2, 4), 0);
        check.has("1 by the 0 of operation " + what + " of " + a + " and " + b, x, 5, "+inf");
        check.due("0 with 0", x.compare(0, 4, 31), 1);
    }

    private static void infinitiesBeyondAll() {
        check.sentence("PLUS or MINUS INFINITY, which are above and below all these");
        for (String[] values : new String[][] {ABOVE_ZERO, BELOW_ZERO, ZEROS}) {
            for (String v : values) {
                check.order(v, "+inf", -1);
                check.order("-inf", v, -1);
            }
        }
        check.order("-inf", "+inf", -1);
        check.order("+inf", "+inf", 0);
        check.order("-inf", "-inf", 0);
    }

    private static void sameSizeOfBothKinds() {
        check.sentence("A whole number and a real of the same size are different values, which compare equal");
        String[][] pairs = {{"0", "0r0"}, {"1", "1r0"}, {"-12", "-3r2"}, {"" + P53, "1r53"}, {"" + MIN, "-1r63"},
            {"" + (1L << 62), "1r62"}, {"" + (MAX - 1023), "9007199254740991r10"}};
        for (String[] pair : pairs) {
            check.order(pair[0], pair[1], 0);
            MixedNumbers x = check.row(0, pair);
            check.has("whole", x, 0, pair[0]);
            check.has("real", x, 1, pair[1]);
        }
    }

    private static void leastFarAway() {
        check.sentence("THE NEAREST of a rational number is the real that is least far away");
        // Between 2^53 and 2^54, reals are 2 apart, so 1/2 and 3/2 are a quarter from one of them.
        check.operation(0, "1r53", "1r-1", "1r53");
        check.operation(0, "1r53", "3r-1", "4503599627370497r1");
        check.operation(1, "-1r53", "1r-1", "-1r53");
        check.operation(1, "-1r53", "3r-1", "-4503599627370497r1");
        // Below 2^53 they are 1 apart.
        check.operation(0, "9007199254740990r0", "3r-2", "9007199254740991r0");
        check.operation(0, "9007199254740990r0", "1r-2", "4503599627370495r1");
        check.operation(0, "9007199254740991r0", "3r-2", "1r53");
        // The least bit beyond a tie decides it, however far away it is.
        check.operation(0, "1r53", "4503599627370497r-52", "4503599627370497r1");
        check.operation(0, "1r53", "4503599627370495r-52", "1r53");
        check.operation(1, "1r53", "4503599627370497r-53", "9007199254740991r0");
        check.operation(1, "4503599627370497r1", "9007199254740991r-53", "4503599627370497r1");
        check.operation(1, "4503599627370497r1", "4503599627370497r-52", "1r53");
        check.operation(0, "1r0", LEAST, "1r0");
        check.operation(1, "1r0", LEAST, "1r0");
        check.operation(3, "1", "3", "6004799503160661r-54");
        check.operation(3, "2", "3", "6004799503160661r-53");
        check.operation(3, "-1", "10", "-3602879701896397r-55");
        check.operation(2, "9007199254740991r0", "9007199254740991r0", "4503599627370495r54");
    }

    private static void evenOfTwo() {
        check.sentence("of two, that whose m is even when it is written with the least e");
        check.operation(0, "1r53", "1", "1r53");
        check.operation(0, "4503599627370497r1", "1", "2251799813685249r2");
        check.operation(0, "-1r53", "-1", "-1r53");
        check.operation(1, "-4503599627370497r1", "1", "-2251799813685249r2");
        check.operation(0, "9007199254740990r0", "1r-1", "4503599627370495r1");
        check.operation(0, "9007199254740991r0", "1r-1", "1r53");
        check.operation(0, "9007199254740989r0", "1r-1", "4503599627370495r1");
        check.operation(1, "1r53", "1r-1", "1r53");
        // Odd products between 2^53 and 2^54.
        check.operation(2, "94906267r0", "94906265r0", "2251799831515689r2");
        check.operation(2, "94906267r0", "94906267r0", "1125899939484411r3");
        check.operation(2, "4503599627370497r0", "3", "3377699720527873r2");
        check.operation(2, "4503599627370499r0", "3", "1688849860263937r3");
        check.operation(2, "-4503599627370497r0", "3", "-3377699720527873r2");
        // A product of more than 64 bits, with an even m that e = 971 has left.
        check.operation(2, "3r1022", "4503599627370497r-100", "3377699720527873r924");
        check.operation(2, "4503599627370499r-100", "-3r1022", "-1688849860263937r925");
        // Among the least reals, which all have -1074 as their least e.
        check.realIs(1, -1075, "0r0");
        check.realIs(3, -1075, "1r-1073");
        check.realIs(5, -1075, "1r-1073");
        check.realIs(7, -1075, "1r-1072");
        check.realIs(-3, -1075, "-1r-1073");
        check.operation(3, "3r-1074", "2", "1r-1073");
        check.operation(3, "5r-1074", "2", "1r-1073");
        check.operation(3, "7r-1074", "2", "1r-1072");
        check.operation(2, "-5r-1074", "1r-1", "-1r-1073");
    }

    // The tie above the greatest real is 2^1024 - 2^970, which is (2^27 - 1) * (2^27 + 1) * 2^970.
    private static void tooGreat() {
        check.sentence("if it is 2^1024 - 2^970 or more in size, the infinity of its sign");
        check.realIs((1L << 54) - 1, 970, "+inf");
        check.realIs(1 - (1L << 54), 970, "-inf");
        check.realIs(P53, 971, "+inf");
        check.realIs(-P53, 971, "-inf");
        check.realIs(P53 - 1, 971, GREATEST);
        check.realIs(P53 - 1, 972, "+inf");
        check.realIs(1, 1024, "+inf");
        check.realIs(-1, 1024, "-inf");
        check.realIs(1, 1200, "+inf");
        check.realIs(MIN, 1200, "-inf");
        check.operation(0, GREATEST, "1r970", "+inf");
        check.operation(0, GREATEST, "9007199254740991r917", GREATEST);
        check.operation(0, GREATEST, "1r969", GREATEST);
        check.operation(1, LOWEST, "1r970", "-inf");
        check.operation(1, LOWEST, "9007199254740991r917", LOWEST);
        check.operation(0, GREATEST, GREATEST, "+inf");
        check.operation(1, LOWEST, GREATEST, "-inf");
        check.operation(2, "134217727r485", "134217729r485", "+inf");
        check.operation(2, "134217727r485", "-134217729r485", "-inf");
        // The same product, with a little less and a little more.
        check.operation(2, "4503599660924929r0", "9007199187632126r919", GREATEST);
        check.operation(2, "4503599660924929r0", "-9007199187632126r919", LOWEST);
        check.operation(2, "4503599660924927r0", "9007199187632130r919", "+inf");
        check.operation(2, "1r512", "1r512", "+inf");
        check.operation(2, "1r512", "1r511", "4503599627370496r971");
        check.operation(3, GREATEST, "9007199254740991r-53", "+inf");
        check.operation(3, GREATEST, "1", GREATEST);
        check.operation(3, "-1r1023", "1r-1", "-inf");
        check.operation(6, "2", "1024", "+inf");
        check.operation(6, "2", "1023", "4503599627370496r971");
    }

    private static void tooSmall() {
        check.sentence("what is at most 2^-1075 in size has 0");
        check.realIs(1, -1075, "0r0");
        check.realIs(-1, -1075, "0r0");
        check.realIs(P53 - 1, -1128, "0r0");
        check.realIs(P53 / 2 + 1, -1127, LEAST);
        check.realIs(-P53 / 2 - 1, -1127, "-1r-1074");
        check.realIs(3, -1076, LEAST);
        check.realIs(3, -1077, "0r0");
        check.realIs(1, -1200, "0r0");
        check.realIs(MAX, -1138, "0r0");
        check.realIs(MAX, -1137, LEAST);
        check.realIs(MIN, -1138, "0r0");
        check.realIs(MIN, -1200, "0r0");
        check.operation(2, "1r-537", "1r-538", "0r0");
        check.operation(2, "1r-537", "4503599627370497r-590", LEAST);
        check.operation(2, "-1r-537", "4503599627370497r-590", "-1r-1074");
        check.operation(2, "1r-537", "9007199254740991r-591", "0r0");
        // Products of more than 64 bits, a little above and a little below.
        check.operation(2, "4503599627370497r-589", "4503599627370497r-590", LEAST);
        check.operation(2, "4503599627370497r-589", "-4503599627370497r-590", "-1r-1074");
        check.operation(2, "9007199254740991r-590", "9007199254740991r-591", "0r0");
        check.operation(2, "9007199254740991r-591", "9007199254740991r-591", "0r0");
        check.operation(2, LEAST, LEAST, "0r0");
        check.operation(3, LEAST, "2", "0r0");
        check.operation(3, LEAST, "9007199254740991r-52", LEAST);
        check.operation(3, "-1r-1074", "-2", "0r0");
        check.operation(3, LEAST, GREATEST, "0r0");
    }

    private static void wholeAsReal() {
        check.sentence("A whole number AS A REAL is its nearest");
        String[][] pairs = {{"0", "0r0"}, {"6", "3r1"}, {"-6", "-3r1"}, {"9007199254740991", "9007199254740991r0"},
            {"9007199254740992", "1r53"}, {"9007199254740993", "1r53"}, {"9007199254740994", "4503599627370497r1"},
            {"9007199254740995", "2251799813685249r2"}, {"-9007199254740993", "-1r53"},
            {"-9007199254740995", "-2251799813685249r2"}, {"" + MAX, "1r63"}, {"" + MIN, "-1r63"},
            {"" + (MAX - 511), "1r63"}, {"" + (MAX - 512), "9007199254740991r10"},
            {"" + (MIN + 512), "-1r63"}, {"" + (MIN + 513), "-9007199254740991r10"}};
        for (String[] pair : pairs) {
            check.operation(15, pair[0], "0", pair[1]);
            check.operation(0, pair[0], "0r0", pair[1]);
            check.operation(0, "0r0", pair[0], pair[1]);
            check.operation(1, pair[0], "0r0", pair[1]);
            check.operation(2, pair[0], "1r0", pair[1]);
            check.operation(2, "1r0", pair[0], pair[1]);
            check.operation(3, pair[0], "1", pair[1]);
            check.operation(6, pair[0], "1", pair[1]);
        }
    }

    private static void wholeWraps() {
        check.sentence("WHOLE arithmetic wraps around modulo 2^64");
        check.operation(0, "2", "3", "5");
        check.operation(0, "" + MAX, "1", "" + MIN);
        check.operation(0, "" + MIN, "-1", "" + MAX);
        check.operation(0, "" + MAX, "" + MAX, "-2");
        check.operation(0, "" + MIN, "" + MIN, "0");
        check.operation(1, "2", "3", "-1");
        check.operation(1, "" + MIN, "1", "" + MAX);
        check.operation(1, "" + MAX, "-1", "" + MIN);
        check.operation(1, "0", "" + MIN, "" + MIN);
        check.operation(2, "-7", "6", "-42");
        check.operation(2, "" + MAX, "2", "-2");
        check.operation(2, "" + MAX, "" + MAX, "1");
        check.operation(2, "" + MIN, "-1", "" + MIN);
        check.operation(2, "" + MIN, "2", "0");
        check.operation(2, "4294967296", "4294967296", "0");
        check.operation(2, "4294967296", "2147483648", "" + MIN);
    }

    private static void realResultIsNearest() {
        check.sentence("REAL arithmetic answers the nearest of the exact result");
        check.operation(0, "1", "1r-1", "3r-1");
        check.operation(0, "1r-1", "1r-1", "1r0");
        check.operation(0, "1r1000", "-1r-1000", "536870912r971");
        check.operation(1, "3r0", "3", "0r0");
        check.operation(1, "0r0", "5r-3", "-5r-3");
        check.operation(1, "1r-1022", LEAST, "4503599627370495r-1074");
        check.operation(1, "9007199254740991r1", "9007199254740990r1", "1r1");
        for (int e = 54; e <= 130; e++) {
            check.operation(0, "1r" + e, "1r0", "1r" + e);
            check.operation(1, "-5r0", "3r" + (e + 2), "-3r" + (e + 2));
        }
        check.operation(0, "3602879701896397r-55", "3602879701896397r-54", "1351079888211149r-52");
        check.operation(2, "3r-1", "-5r-2", "-15r-3");
        check.operation(2, "0r0", "-5r0", "0r0");
        check.operation(2, "9007199254740991r-1074", "1r-1", "1r-1022");
        check.operation(2, GREATEST, LEAST, "9007199254740991r-103");
        check.operation(3, "6", "3", "1r1");
        check.operation(3, "1r-1074", "1r971", "0r0");
        check.operation(3, "1r971", "1r971", "1r0");
        check.operation(3, "7", "-2", "-7r-1");
    }

    private static void infinitiesAdded() {
        check.sentence("With infinities: added .. they behave as very great numbers do when there is one result");
        for (String[] values : new String[][] {ABOVE_ZERO, BELOW_ZERO, ZEROS}) {
            for (String v : values) {
                check.operation(0, "+inf", v, "+inf");
                check.operation(0, v, "+inf", "+inf");
                check.operation(0, "-inf", v, "-inf");
                check.operation(0, v, "-inf", "-inf");
                check.operation(1, "+inf", v, "+inf");
                check.operation(1, "-inf", v, "-inf");
                check.operation(1, v, "+inf", "-inf");
                check.operation(1, v, "-inf", "+inf");
            }
        }
        check.operation(0, "+inf", "+inf", "+inf");
        check.operation(0, "-inf", "-inf", "-inf");
        check.operation(1, "+inf", "-inf", "+inf");
        check.operation(1, "-inf", "+inf", "-inf");
    }

    private static void infinitiesMultiplied() {
        check.sentence("With infinities: multiplied .. they behave as very great numbers do");
        for (String v : ABOVE_ZERO) {
            bothWays(2, "+inf", v, "+inf");
            bothWays(2, "-inf", v, "-inf");
        }
        for (String v : BELOW_ZERO) {
            bothWays(2, "+inf", v, "-inf");
            bothWays(2, "-inf", v, "+inf");
        }
        check.operation(2, "+inf", "+inf", "+inf");
        check.operation(2, "-inf", "-inf", "+inf");
        bothWays(2, "+inf", "-inf", "-inf");
    }

    private static void bothWays(int what, String a, String b, String want) {
        check.operation(what, a, b, want);
        check.operation(what, b, a, want);
    }

    private static void infinitiesDivided() {
        check.sentence("With infinities: .. divided, they behave as very great numbers do");
        for (String v : ABOVE_ZERO) {
            check.operation(3, "+inf", v, "+inf");
            check.operation(3, "-inf", v, "-inf");
        }
        for (String v : BELOW_ZERO) {
            check.operation(3, "+inf", v, "-inf");
            check.operation(3, "-inf", v, "+inf");
        }
    }

    private static void byInfinity() {
        check.sentence("a number by an infinity is 0");
        for (String[] values : new String[][] {ABOVE_ZERO, BELOW_ZERO, ZEROS}) {
            for (String v : values) {
                check.operation(3, v, "+inf", "0r0");
                check.operation(3, v, "-inf", "0r0");
            }
        }
    }

    private static void noOneResult() {
        check.sentence("0 multiplied by an infinity has none: the no-number");
        for (String zero : ZEROS) {
            bothWays(2, zero, "+inf", "none");
            bothWays(2, zero, "-inf", "none");
        }
        check.sentence("an infinity less itself has none: the no-number");
        check.operation(1, "+inf", "+inf", "none");
        check.operation(1, "-inf", "-inf", "none");
        bothWays(0, "+inf", "-inf", "none");
        check.sentence("one divided by another has none: the no-number");
        for (String a : INFINITIES) {
            for (String b : INFINITIES) {
                check.operation(3, a, b, "none");
            }
        }
    }

    private static void byZero() {
        check.sentence("A real other than 0, or an infinity, by 0 is the infinity of its sign");
        for (String zero : ZEROS) {
            for (String v : ABOVE_ZERO) {
                check.operation(3, v, zero, "+inf");
            }
            for (String v : BELOW_ZERO) {
                check.operation(3, v, zero, "-inf");
            }
            check.operation(3, "+inf", zero, "+inf");
            check.operation(3, "-inf", zero, "-inf");
        }
    }

    private static void zeroByZero() {
        check.sentence("0 by 0 is the no-number");
        for (String a : ZEROS) {
            for (String b : ZEROS) {
                check.operation(3, a, b, "none");
            }
        }
    }

    private static void noNumberAsOperand() {
        check.sentence("Whatever has a no-number as an operand of real arithmetic is the no-number");
        String[] others = {"0", "0r0", "1", "-5", "5r-1", "" + MIN, "+inf", "-inf", "none", GREATEST, LEAST};
        for (String v : others) {
            for (int what = 0; what <= 5; what++) {
                bothWays(what, "none", v, "none");
            }
        }
        check.operation(12, "none", "0", "none");
    }
}
