/** For each promise: ordinary inputs, the edges that the document names, and wrong inputs. */
public final class PromisesTest {
    private static final int WHOLE = 1;
    private static final int REAL = 2;
    private static final int PLUS = 3;
    private static final int MINUS = 4;
    private static final int NONE = 5;
    private static final long MIN = Long.MIN_VALUE;
    private static final long MAX = Long.MAX_VALUE;
    private static final long P53 = 1L << 53;
    private static final int[] NO_REGISTERS = {-1, 32, 33, Integer.MIN_VALUE, Integer.MAX_VALUE};

    private static final Check check = new Check();

    public static void main(String[] args) {
        newObject();
        whole();
        real();
        special();
        wholeArithmetic();
        realArithmetic();
        infinities();
        quotient();
        remainder();
        power();
        bits();
        shifts();
        ofOneOperand();
        wrongOperations();
        compare();
        readings();
        sum();
        polynomial();
        sort();
        check.end("PromisesTest");
    }

    // A value in a text: "7" whole, "7r-1" the real 7 * 2^-1, "+inf", "-inf", "none".
    private static void put(MixedNumbers x, int r, String text) {
        if (text.equals("+inf")) {
            check.due("special " + text, x.special(r, PLUS), true);
        } else if (text.equals("-inf")) {
            check.due("special " + text, x.special(r, MINUS), true);
        } else if (text.equals("none")) {
            check.due("special " + text, x.special(r, NONE), true);
        } else if (text.indexOf('r') >= 0) {
            int at = text.indexOf('r');
            long m = Long.parseLong(text.substring(0, at));
            int e = Integer.parseInt(text.substring(at + 1));
            check.due("real " + text, x.real(r, m, e), true);
        } else {
            check.due("whole " + text, x.whole(r, Long.parseLong(text)), true);
        }
    }

    // Here a real stands with the number and the exponent that are to be answered.
    private static void has(String call, MixedNumbers x, int r, String text) {
        if (text.equals("+inf")) {
            check.value(call, x, r, PLUS, 0, 0);
        } else if (text.equals("-inf")) {
            check.value(call, x, r, MINUS, 0, 0);
        } else if (text.equals("none")) {
            check.value(call, x, r, NONE, 0, 0);
        } else if (text.indexOf('r') >= 0) {
            int at = text.indexOf('r');
            long m = Long.parseLong(text.substring(0, at));
            check.value(call, x, r, REAL, m, Integer.parseInt(text.substring(at + 1)));
        } else {
            check.value(call, x, r, WHOLE, Long.parseLong(text), 0);
        }
    }

    private static void operation(int what, String a, String b, String want) {
        String call = "operation " + what + " of " + a + " and " + b;
        MixedNumbers x = new MixedNumbers();
        put(x, 3, a);
        put(x, 31, b);
        check.due(call, x.operate(what, 0, 3, 31), 0);
        has(call, x, 0, want);
        // The result may go to the place of an operand.
        check.due(call, x.operate(what, 31, 3, 31), 0);
        has(call, x, 31, want);
    }

    private static void error(int what, String a, String b, int want) {
        String call = "operation " + what + " of " + a + " and " + b;
        MixedNumbers x = new MixedNumbers();
        put(x, 3, a);
        put(x, 31, b);
        x.whole(0, 77);
        check.due(call, x.operate(what, 0, 3, 31), want);
        has(call + ", the register stays", x, 0, "77");
    }

    private static void newObject() {
        MixedNumbers x = new MixedNumbers();
        for (int r = 0; r < 32; r++) {
            has("new", x, r, "0");
        }
        check.due("BAD", MixedNumbers.BAD, -1);
    }

    private static void whole() {
        MixedNumbers x = new MixedNumbers();
        for (long v : new long[] {0, 1, -1, MIN, MAX, P53 + 1}) {
            check.due("whole", x.whole(0, v), true);
            has("whole", x, 0, Long.toString(v));
            check.due("whole", x.whole(31, v), true);
            has("whole", x, 31, Long.toString(v));
        }
        for (int r : NO_REGISTERS) {
            check.due("whole(" + r + ", 1)", x.whole(r, 1), false);
        }
        x.real(5, 3, -2);
        x.whole(5, 9);
        has("whole over a real", x, 5, "9");
    }

    private static void realIs(long m, int e, String want) {
        MixedNumbers x = new MixedNumbers();
        String call = "real(0, " + m + ", " + e + ")";
        check.due(call, x.real(0, m, e), true);
        has(call, x, 0, want);
    }

    private static void real() {
        realIs(5, -1, "5r-1");
        realIs(-12, 3, "-3r5");
        realIs(0, 1200, "0r0");
        realIs(0, -1200, "0r0");
        // The nearest of m comes first.
        realIs(P53 + 1, 0, "1r53");
        realIs(P53 + 3, 0, "2251799813685249r2");
        realIs(-P53 - 3, 0, "-2251799813685249r2");
        realIs(MAX, 0, "1r63");
        realIs(MIN, 0, "-1r63");
        realIs(MIN, -63, "-1r0");
        // Twice rounded: 2^54 + 1 first loses its 1, then there is a tie at half of 2^-1074.
        realIs((1L << 54) + 1, -1129, "0r0");
        realIs((1L << 54) + 5, -1129, "1r-1074");
        realIs(1, -1074, "1r-1074");
        realIs(1, -1075, "0r0");
        realIs(-1, -1075, "0r0");
        realIs(3, -1076, "1r-1074");
        realIs(3, -1075, "1r-1073");
        realIs(5, -1075, "1r-1073");
        realIs(P53 - 1, -1075, "1r-1022");
        realIs(MAX, -1200, "0r0");
        realIs(MAX, -1137, "1r-1074");
        realIs(MAX, -1138, "0r0");
        realIs(P53 - 1, 971, (P53 - 1) + "r971");
        realIs(P53 - 1, 972, "+inf");
        realIs(1 - P53, 972, "-inf");
        realIs(P53, 971, "+inf");
        realIs(P53, 970, (1L << 52) + "r971");
        realIs(-1, 1023, "-" + (1L << 52) + "r971");
        realIs(1, 1024, "+inf");
        realIs(1, 972, "2r971");
        realIs(6, 970, "3r971");
        realIs(-1, 1200, "-inf");
        MixedNumbers x = new MixedNumbers();
        for (int r : NO_REGISTERS) {
            check.due("real(" + r + ", 1, 0)", x.real(r, 1, 0), false);
        }
        for (int e : new int[] {1201, -1201, Integer.MAX_VALUE, Integer.MIN_VALUE}) {
            check.due("real(0, 0, " + e + ")", x.real(0, 0, e), false);
            has("the register stays", x, 0, "0");
        }
    }

    private static void special() {
        MixedNumbers x = new MixedNumbers();
        for (int kind = PLUS; kind <= NONE; kind++) {
            x.real(4, 7, -2);
            check.due("special(4, " + kind + ")", x.special(4, kind), true);
            check.value("special", x, 4, kind, 0, 0);
        }
        x.whole(4, 8);
        for (int kind : new int[] {0, 1, 2, 6, -1, Integer.MIN_VALUE, Integer.MAX_VALUE}) {
            check.due("special(4, " + kind + ")", x.special(4, kind), false);
            has("the register stays", x, 4, "8");
        }
        for (int r : NO_REGISTERS) {
            check.due("special(" + r + ", 3)", x.special(r, PLUS), false);
        }
    }

    private static void wholeArithmetic() {
        operation(0, "2", "3", "5");
        operation(0, "" + MAX, "1", "" + MIN);
        operation(1, "2", "3", "-1");
        operation(1, "" + MIN, "1", "" + MAX);
        operation(2, "-7", "6", "-42");
        operation(2, "" + MAX, "" + MAX, "1");
        operation(2, "4294967296", "4294967296", "0");
        operation(3, "6", "3", "1r1");
        operation(3, "" + MAX, "" + MAX, "1r0");
    }

    private static void realArithmetic() {
        operation(0, "1", "1r-1", "3r-1");
        operation(0, "1r-1", "1r-1", "1r0");
        operation(0, "" + MAX, "0r0", "1r63");
        operation(0, "0r0", "0r0", "0r0");
        operation(1, "3r0", "3", "0r0");
        operation(1, "0r0", "5r-3", "-5r-3");
        // Ties go to the even one, and the least more than a tie goes up.
        operation(0, "1r53", "1", "1r53");
        operation(0, "4503599627370497r1", "1", "2251799813685249r2");
        operation(0, "1r53", "4503599627370497r-52", "4503599627370497r1");
        operation(1, "1r53", "1r-1", "1r53");
        operation(1, "1r53", "4503599627370497r-53", "9007199254740991r0");
        operation(1, "1r53", "1r-1074", "1r53");
        operation(1, "1r-1022", "1r-1074", "4503599627370495r-1074");
        operation(0, "1r1000", "-1r-1000", (1L << 29) + "r971");
        operation(0, (P53 - 1) + "r971", "1r970", "+inf");
        operation(0, (P53 - 1) + "r971", "9007199254740991r917", (P53 - 1) + "r971");
        operation(1, (1 - P53) + "r971", "1r970", "-inf");
        operation(2, "3r-1", "-5r-2", "-15r-3");
        operation(2, (P53 - 1) + "r0", (P53 - 1) + "r0", "4503599627370495r54");
        operation(2, "1r-537", "1r-537", "1r-1074");
        operation(2, "1r-537", "1r-538", "0r0");
        operation(2, "3r-538", "1r-538", "1r-1074");
        operation(2, "1r600", "-1r600", "-inf");
        operation(2, "0r0", "-5r0", "0r0");
        operation(2, (P53 - 1) + "r-1074", "1r-1", "1r-1022");
        operation(3, "1", "3", "6004799503160661r-54");
        operation(3, "-1r0", "10", "-3602879701896397r-55");
        operation(3, "1r-1074", "2", "0r0");
        operation(3, "3r-1074", "2", "1r-1073");
        operation(3, "1r1000", "1r-1000", "+inf");
        operation(3, "0", "-3", "0r0");
    }

    private static void infinities() {
        operation(0, "+inf", "+inf", "+inf");
        operation(0, "+inf", "-5", "+inf");
        operation(0, "5", "-inf", "-inf");
        operation(0, "-inf", "+inf", "none");
        operation(1, "+inf", "+inf", "none");
        operation(1, "-inf", "-inf", "none");
        operation(1, "-inf", "+inf", "-inf");
        operation(1, "7", "-inf", "+inf");
        operation(2, "+inf", "-2", "-inf");
        operation(2, "-inf", "-1r-1074", "+inf");
        operation(2, "-inf", "+inf", "-inf");
        operation(2, "0", "+inf", "none");
        operation(2, "-inf", "0r0", "none");
        operation(3, "+inf", "-inf", "none");
        operation(3, "-inf", "-2", "+inf");
        operation(3, "+inf", "-1r-1", "-inf");
        operation(3, "-inf", "0", "-inf");
        operation(3, "+inf", "0r0", "+inf");
        operation(3, "-5", "0", "-inf");
        operation(3, "1r-1074", "0r0", "+inf");
        operation(3, "0r0", "0", "none");
        operation(3, "-7", "+inf", "0r0");
        operation(3, "0", "-inf", "0r0");
        for (int what = 0; what <= 5; what++) {
            operation(what, "none", "5", "none");
            operation(what, "0", "none", "none");
            operation(what, "none", "+inf", "none");
            operation(what, "-inf", "none", "none");
            operation(what, "none", "none", "none");
        }
    }

    private static void quotient() {
        operation(4, "7", "2", "3");
        operation(4, "-7", "2", "-4");
        operation(4, "7", "-2", "-4");
        operation(4, "-7", "-2", "3");
        operation(4, "" + MIN, "-1", "" + MIN);
        operation(4, "" + MAX, "1", "" + MAX);
        error(4, "5", "0", 1);
        error(4, "0", "0", 1);
        operation(4, "7r0", "2", "3r0");
        operation(4, "-7", "2r0", "-1r2");
        operation(4, "-1r-1074", "3r0", "0r0");
        operation(4, "-1r-1000", "1r0", "-1r0");
        operation(4, "-1r-1074", "1r0", "-1r0");
        operation(4, "1r-1074", "1r0", "0r0");
        operation(4, "1r1000", "3r0", third1000());
        operation(4, "5", "0r0", "+inf");
        operation(4, "-5r0", "0", "-inf");
        operation(4, "0r0", "0", "none");
        operation(4, "-inf", "2", "-inf");
        operation(4, "-2", "+inf", "0r0");
        // The quotient is rounded to a real before it is rounded down.
        operation(4, "9007199254740991r0", "9007199254740991r-53", "1r53");
        operation(4, "1", "1r-2", "1r2");
    }

    // 2^1000 / 3 as the machine's own doubles have it, written with the greatest e.
    private static String third1000() {
        double d = Math.scalb(1.0, 1000) / 3;
        int e = Math.getExponent(d) - 52;
        long m = (long) Math.scalb(d, -e);
        int zeros = Math.min(Long.numberOfTrailingZeros(m), 971 - e);
        return (m >> zeros) + "r" + (e + zeros);
    }

    private static void remainder() {
        operation(5, "7", "2", "1");
        operation(5, "-7", "2", "1");
        operation(5, "7", "-2", "-1");
        operation(5, "-7", "-2", "-1");
        operation(5, "" + MIN, "-1", "0");
        operation(5, "" + MIN, "" + MAX, "" + (MAX - 1));
        error(5, "5", "0", 1);
        operation(5, "7r0", "2", "1r0");
        operation(5, "-7r0", "2", "1r0");
        operation(5, "7", "-2r0", "-1r0");
        operation(5, "-6r0", "2", "0r0");
        operation(5, "11r-1", "3r-1", "1r0");
        operation(5, "-11r-1", "3r-1", "1r-1");
        operation(5, "0r0", "-3", "0r0");
        operation(5, "1r1023", "3", "1r1");
        operation(5, "1r1023", "-3", "-1r0");
        operation(5, "1r-1074", "1r1000", "1r-1074");
        operation(5, "-1r-1074", "1r1000", (1L << 29) + "r971");
        operation(5, "-1r-1074", "1r-1073", "1r-1074");
        operation(5, "5", "1r60", "5r0");
        operation(5, "9007199254740991r0", "1r52", "4503599627370495r0");
        operation(5, "3r-2", "1r62", "3r-2");
        operation(5, "5", "0r0", "none");
        operation(5, "+inf", "3", "none");
        operation(5, "-inf", "-inf", "none");
        operation(5, "5", "+inf", "5r0");
        operation(5, "-5", "-inf", "-5r0");
        operation(5, "0", "-inf", "0r0");
        operation(5, "0r0", "+inf", "0r0");
        operation(5, "-5", "+inf", "+inf");
        operation(5, "5r-3", "-inf", "-inf");
    }

    private static void power() {
        operation(6, "2", "10", "1r10");
        operation(6, "-3", "3", "-27r0");
        operation(6, "2", "-1", "1r-1");
        operation(6, "0", "0", "1r0");
        operation(6, "0r0", "-3", "+inf");
        operation(6, "0", "65536", "0r0");
        operation(6, "none", "0", "1r0");
        operation(6, "none", "0r0", "1r0");
        operation(6, "none", "1", "none");
        operation(6, "none", "-1", "none");
        operation(6, "+inf", "0", "1r0");
        operation(6, "-inf", "3", "-inf");
        operation(6, "-inf", "2", "+inf");
        operation(6, "-inf", "-3", "0r0");
        operation(6, "1", "65536", "1r0");
        operation(6, "-1", "-65536", "1r0");
        operation(6, "-1", "-65535", "-1r0");
        operation(6, "2", "1r2", "1r4");
        operation(6, "2", "1r16", "+inf");
        operation(6, "2", "-1r16", "0r0");
        // 2^1074 is beyond the reals, so its inverse is 0, though 2^-1074 is a real.
        operation(6, "2", "-1074", "0r0");
        operation(6, "1r-1", "1074", "1r-1074");
        operation(6, "10", "22", "2384185791015625r22");
        operation(6, "7r0", "-2", "5882252574524729r-58");
        String[] wrong = {"65537", "-65537", "1r-1", "65537r0", "131071r-1", "+inf", "-inf", "none",
            "" + MIN, "" + MAX, "1r63", "-1r63", "1r64", "1r1023", "1r-1074"};
        for (String b : wrong) {
            error(6, "2", b, 3);
            error(6, "none", b, 3);
        }
    }

    private static void bits() {
        operation(7, "12", "10", "8");
        operation(8, "12", "10", "14");
        operation(9, "12", "10", "6");
        operation(7, "-1", "5r0", "5");
        operation(8, "1r62", "1", "" + ((1L << 62) + 1));
        operation(9, "-1r63", "-1r0", "" + MAX);
        operation(7, "0r0", "0r0", "0");
        String[] wrong = {"1r-1", "1r63", "-4503599627370497r11", "1r64", "1r1023", "+inf", "-inf",
            "none", "1r-1074", "1r127", "1r128"};
        for (String v : wrong) {
            for (int what = 7; what <= 11; what++) {
                error(what, v, "1", 2);
                error(what, "1", v, 2);
            }
            error(13, v, "1", 2);
            error(16, v, "1", 2);
        }
    }

    private static void shifts() {
        operation(10, "3", "4", "48");
        operation(10, "-1", "0", "-1");
        operation(10, "-1", "63", "" + MIN);
        operation(10, "-1", "64", "0");
        operation(10, "-1", "" + MAX, "0");
        operation(10, "-1", "-1", "" + MAX);
        operation(10, "-1", "-63", "1");
        operation(10, "-1", "-64", "0");
        operation(10, "-1", "" + MIN, "0");
        operation(10, "-1", "4294967296", "0");
        operation(10, "-1", "-4294967295", "0");
        operation(10, "3r0", "1r1", "12");
        operation(11, "48", "4", "3");
        operation(11, "-1", "0", "-1");
        operation(11, "-1", "1", "" + MAX);
        operation(11, "-1", "63", "1");
        operation(11, "-1", "64", "0");
        operation(11, "-1", "-63", "" + MIN);
        operation(11, "-1", "-64", "0");
        operation(11, "-1", "" + MIN, "0");
        operation(11, "-1", "" + MAX, "0");
        operation(11, "-1", "4294967297", "0");
    }

    private static void ofOneOperand() {
        operation(12, "5", "none", "-5");
        operation(12, "" + MIN, "0", "" + MIN);
        operation(12, "-5r-1", "0", "5r-1");
        operation(12, "0r0", "0", "0r0");
        operation(12, "+inf", "0", "-inf");
        operation(12, "-inf", "0", "+inf");
        operation(12, "none", "0", "none");
        operation(13, "0", "none", "-1");
        operation(13, "-1r63", "0", "" + MAX);
        operation(14, "" + MIN, "none", "" + MIN);
        operation(14, "5r-1", "0", "2");
        operation(14, "-5r-1", "0", "-3");
        operation(14, "-1r-1074", "0", "-1");
        operation(14, "1r-1074", "0", "0");
        operation(14, "0r0", "0", "0");
        operation(14, "1r62", "0", "" + (1L << 62));
        operation(14, "1r63", "0", "1r63");
        operation(14, "-1r63", "0", "" + MIN);
        operation(14, "-4503599627370497r11", "0", "-4503599627370497r11");
        operation(14, "9007199254740991r10", "0", "" + (9007199254740991L << 10));
        operation(14, "+inf", "0", "+inf");
        operation(14, "-inf", "0", "-inf");
        operation(14, "none", "0", "none");
        operation(15, "6", "none", "3r1");
        operation(15, "0", "0", "0r0");
        operation(15, "" + MIN, "0", "-1r63");
        operation(15, "" + MAX, "0", "1r63");
        operation(15, "-9007199254740993", "0", "-1r53");
        operation(15, "9007199254740995", "0", "2251799813685249r2");
        operation(15, "7r-3", "0", "7r-3");
        operation(15, "-inf", "0", "-inf");
        operation(15, "none", "0", "none");
        operation(16, "" + MAX, "none", "" + MAX);
        operation(16, "3r2", "0", "12");
        operation(16, "-1r63", "0", "" + MIN);
        operation(16, "0r0", "0", "0");
        operation(17, "5", "none", "5");
        operation(17, "-5", "0", "5");
        operation(17, "" + MIN, "0", "" + MIN);
        operation(17, "-5r-1", "0", "5r-1");
        operation(17, "5r-1", "0", "5r-1");
        operation(17, "-inf", "0", "+inf");
        operation(17, "+inf", "0", "+inf");
        operation(17, "none", "0", "none");
    }

    private static void wrongOperations() {
        MixedNumbers x = new MixedNumbers();
        x.whole(1, 9);
        for (int what : new int[] {-1, 18, 19, Integer.MIN_VALUE, Integer.MAX_VALUE}) {
            check.due("operate(" + what + ", 1, 0, 0)", x.operate(what, 1, 0, 0), -1);
        }
        for (int r : NO_REGISTERS) {
            for (int what = 0; what <= 17; what++) {
                check.due("operate(" + what + ", " + r + ", 0, 1)", x.operate(what, r, 0, 1), -1);
                check.due("operate(" + what + ", 1, " + r + ", 1)", x.operate(what, 1, r, 1), -1);
                check.due("operate(" + what + ", 1, 0, " + r + ")", x.operate(what, 1, 0, r), -1);
            }
        }
        has("the register stays", x, 1, "9");
        // No such register comes before the error of the operation.
        check.due("operate(4, 32, 0, 0)", x.operate(4, 32, 0, 0), -1);
    }

    private static void order(String a, String b, int want) {
        MixedNumbers x = new MixedNumbers();
        put(x, 0, a);
        put(x, 31, b);
        String call = "compare " + a + " with " + b;
        check.due(call + " 0", x.compare(0, 0, 31), want == 0 ? 1 : 0);
        check.due(call + " 1", x.compare(1, 0, 31), want < 0 ? 1 : 0);
        check.due(call + " 2", x.compare(2, 0, 31), want <= 0 ? 1 : 0);
        check.due(call + " 0 back", x.compare(0, 31, 0), want == 0 ? 1 : 0);
        check.due(call + " 1 back", x.compare(1, 31, 0), want > 0 ? 1 : 0);
        check.due(call + " 2 back", x.compare(2, 31, 0), want >= 0 ? 1 : 0);
        has(call + ", the register stays", x, 0, a);
    }

    private static void compare() {
        String[] rising = {"-inf", "-9007199254740991r971", "-4503599627370497r11", "" + MIN,
            "" + (MIN + 1), "-9007199254740993", "-1r53", "-3", "-5r-1", "-2", "-1r-1074", "0",
            "1r-1074", "1r-1", "1", "9007199254740991r-52", "2", "9007199254740991", "1r53",
            "9007199254740993", "4503599627370497r1", "" + MAX, "1r63", "1r64",
            "9007199254740991r970", "9007199254740991r971", "+inf"};
        for (int i = 0; i < rising.length; i++) {
            for (int k = i; k < rising.length; k++) {
                order(rising[i], rising[k], i == k ? 0 : -1);
            }
        }
        order("" + MIN, "-1r63", 0);
        order("0", "0r0", 0);
        order("12", "3r2", 0);
        order("-7", "-7r0", 0);
        MixedNumbers x = new MixedNumbers();
        x.special(0, NONE);
        x.special(2, PLUS);
        x.special(3, NONE);
        for (int what = 0; what <= 2; what++) {
            for (int r = 0; r < 4; r++) {
                check.due("compare with a no-number", x.compare(what, 0, r), 0);
                check.due("compare with a no-number", x.compare(what, r, 0), 0);
            }
            for (int r : NO_REGISTERS) {
                check.due("compare(" + what + ", 0, " + r + ")", x.compare(what, 0, r), -1);
                check.due("compare(" + what + ", " + r + ", 0)", x.compare(what, r, 0), -1);
            }
        }
        for (int what : new int[] {-1, 3, Integer.MIN_VALUE, Integer.MAX_VALUE}) {
            check.due("compare(" + what + ", 1, 1)", x.compare(what, 1, 1), -1);
            check.due("compare(" + what + ", 0, 0)", x.compare(what, 0, 0), -1);
        }
    }

    private static void readings() {
        MixedNumbers x = new MixedNumbers();
        for (int r : NO_REGISTERS) {
            check.due("kind(" + r + ")", x.kind(r), -1);
            check.due("number(" + r + ")", x.number(r), 0);
            check.due("exponent(" + r + ")", x.exponent(r), 0);
        }
        String[] all = {"12", "" + MIN, "3r2", "-5r-1074", "0r0", "+inf", "-inf", "none"};
        for (String text : all) {
            put(x, 6, text);
            has("what was put", x, 6, text);
        }
    }

    private static MixedNumbers row(int from, String... values) {
        MixedNumbers x = new MixedNumbers();
        for (int i = 0; i < values.length; i++) {
            put(x, from + i, values[i]);
        }
        return x;
    }

    private static void sumIs(String want, String... values) {
        int from = 32 - values.length;
        MixedNumbers x = row(from, values);
        check.due("sum", x.sum(0, from, values.length), true);
        has("sum of " + String.join(", ", values), x, 0, want);
        for (int i = 0; i < values.length; i++) {
            has("sum, the row stays", x, from + i, values[i]);
        }
        if (values.length > 0) {
            check.due("sum", x.sum(31, from, values.length), true);
            has("sum to one of the row", x, 31, want);
        }
    }

    private static void wrongRows(String name, java.util.function.BiPredicate<Integer, Integer> call) {
        int[][] rows = {{-1, 0}, {-1, 1}, {0, -1}, {0, 33}, {1, 32}, {31, 2}, {32, 1}, {33, 0},
            {33, -1}, {10, 23}, {Integer.MAX_VALUE, 1}, {1, Integer.MAX_VALUE},
            {Integer.MAX_VALUE, Integer.MAX_VALUE}, {Integer.MIN_VALUE, Integer.MIN_VALUE},
            {Integer.MIN_VALUE, 0}, {0, Integer.MIN_VALUE}, {32, Integer.MIN_VALUE}};
        for (int[] row : rows) {
            check.due(name + " of " + row[0] + ", " + row[1], call.test(row[0], row[1]), false);
        }
        int[][] right = {{0, 0}, {32, 0}, {31, 1}, {0, 32}};
        for (int[] row : right) {
            check.due(name + " of " + row[0] + ", " + row[1], call.test(row[0], row[1]), true);
        }
    }

    private static void sum() {
        sumIs("0");
        sumIs("6", "1", "2", "3");
        sumIs("7r-1", "1", "5r-1");
        sumIs("" + MIN, "" + MAX, "1");
        // Whole as long as all are whole: the sum wraps before the real comes.
        sumIs("-1r63", "" + MAX, "1", "0r0");
        sumIs("1r63", "0r0", "" + MAX, "1");
        // One after the other: the small ones are lost one by one.
        sumIs("1r53", "1r53", "1", "1");
        sumIs("4503599627370497r1", "1", "1", "1r53");
        sumIs("0r0", "0r0");
        sumIs("none", "+inf", "1", "-inf");
        sumIs("none", "1", "none", "2");
        sumIs("-inf", "1", "-inf", "1r-3");
        MixedNumbers x = row(0, "5", "6");
        for (int r : NO_REGISTERS) {
            check.due("sum(" + r + ", 0, 1)", x.sum(r, 0, 1), false);
            check.due("sum(" + r + ", 0, 0)", x.sum(r, 0, 0), false);
        }
        has("the register stays", x, 0, "5");
        x.whole(9, 77);
        check.due("sum", x.sum(9, 31, 2), false);
        has("the register stays", x, 9, "77");
        wrongRows("sum", (from, n) -> new MixedNumbers().sum(0, from, n));
        check.due("sum of none", x.sum(9, 32, 0), true);
        has("sum of none", x, 9, "0");
    }

    private static void polynomialIs(String want, String at, String... values) {
        String call = "polynomial at " + at + " of " + String.join(", ", values);
        for (int to : new int[] {0, 30, 31, 31 - values.length}) {
            int from = 31 - values.length;
            MixedNumbers x = row(from, values);
            put(x, 31, at);
            check.due(call, x.polynomial(to, 31, from, values.length), true);
            has(call + " to " + to, x, to, want);
        }
    }

    private static void polynomial() {
        polynomialIs("0", "5");
        polynomialIs("7", "5", "7");
        polynomialIs("321", "10", "1", "2", "3");
        polynomialIs("-3r2", "-2", "3", "7r-1", "-2");
        polynomialIs("1r0", "0", "1", "5r-1");
        polynomialIs("" + MIN, "2", "0", "" + (1L << 62));
        polynomialIs("1r63", "2r0", "0", "" + (1L << 62));
        // The beginning is 0 times x: the no-number where x is an infinity.
        polynomialIs("none", "+inf", "7");
        polynomialIs("none", "-inf", "1", "2");
        polynomialIs("none", "none", "7");
        polynomialIs("0", "none");
        polynomialIs("7r0", "3r0", "7");
        polynomialIs("+inf", "2", "+inf");
        polynomialIs("-inf", "-2", "1", "+inf");
        polynomialIs("none", "0", "1", "+inf");
        MixedNumbers x = row(0, "2", "3");
        check.due("x is a factor", x.polynomial(1, 1, 0, 2), true);
        has("x is a factor", x, 1, "11");
        for (int r : NO_REGISTERS) {
            check.due("polynomial(" + r + ", 0, 0, 1)", x.polynomial(r, 0, 0, 1), false);
            check.due("polynomial(0, " + r + ", 0, 1)", x.polynomial(0, r, 0, 1), false);
            check.due("polynomial(0, " + r + ", 0, 0)", x.polynomial(0, r, 0, 0), false);
        }
        check.due("polynomial(0, 1, 1, 32)", x.polynomial(0, 1, 1, 32), false);
        has("the register stays", x, 0, "2");
        wrongRows("polynomial", (from, n) -> new MixedNumbers().polynomial(0, 1, from, n));
    }

    private static void sorted(String values, String want) {
        String[] row = values.isEmpty() ? new String[0] : values.split(" ");
        String[] wanted = want.isEmpty() ? new String[0] : want.split(" ");
        int from = 31 - row.length;
        MixedNumbers x = row(from, row);
        x.whole(from - 1, MAX);
        x.whole(31, MIN);
        check.due("sort", x.sort(from, row.length), true);
        for (int i = 0; i < wanted.length; i++) {
            has("sort of " + values, x, from + i, wanted[i]);
        }
        has("before the row", x, from - 1, "" + MAX);
        has("behind the row", x, 31, "" + MIN);
    }

    private static void sort() {
        sorted("", "");
        sorted("5", "5");
        sorted("2 1", "1 2");
        sorted("3 5r-1 2 +inf -inf 0r0", "-inf 0r0 2 5r-1 3 +inf");
        // Equal ones of both kinds keep their order.
        sorted("3r0 1 3 1r0 3r0", "1 1r0 3r0 3 3r0");
        sorted("3 1r0 3r0 1 3", "1r0 1 3 3r0 3");
        sorted("none 2 none 1", "1 2 none none");
        sorted("none +inf none -inf", "-inf +inf none none");
        sorted("+inf none 9007199254740993 1r53 9007199254740992 none",
            "1r53 9007199254740992 9007199254740993 +inf none none");
        sorted("1r63 " + MAX + " -1r63 " + MIN, "-1r63 " + MIN + " " + MAX + " 1r63");
        MixedNumbers x = new MixedNumbers();
        for (int r = 0; r < 32; r++) {
            x.whole(r, (r * 11) % 32);
        }
        check.due("sort(0, 32)", x.sort(0, 32), true);
        for (int r = 0; r < 32; r++) {
            has("sort(0, 32)", x, r, "" + r);
        }
        x.whole(0, 5);
        check.due("sort(0, 33)", x.sort(0, 33), false);
        has("the register stays", x, 0, "5");
        wrongRows("sort", (from, n) -> new MixedNumbers().sort(from, n));
        // A register that was sorted is one of its own still.
        x.sort(0, 32);
        x.whole(3, 100);
        has("after a sort", x, 2, "3");
        has("after a sort", x, 4, "5");
    }
}
