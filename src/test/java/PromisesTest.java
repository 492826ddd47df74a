import java.util.ArrayList;
import java.util.List;

/** Promises 1 to 12: a test for each sentence; what the operations make is in OperationsTest. */
public final class PromisesTest {
    private static final int BAD = -1;
    private static final long MIN = Check.MIN;
    private static final long MAX = Check.MAX;
    private static final long P53 = Check.P53;
    private static final String GREATEST = Check.GREATEST;
    private static final String LOWEST = Check.LOWEST;
    private static final String LEAST = Check.LEAST;
    private static final int LOWEST_INT = Integer.MIN_VALUE;
    private static final int HIGHEST_INT = Integer.MAX_VALUE;

    private static final Check check = new Check();

    private interface RowCall {
        boolean of(MixedNumbers x, int from, int n);
    }

    public static void main(String[] args) {
        newObject();
        whole();
        realIsTwiceRounded();
        realRefused();
        special();
        operateTo();
        operateErrors();
        operateBad();
        compareSizes();
        compareNoNumber();
        compareBad();
        kind();
        number();
        exponent();
        sum();
        sumRows();
        sumTo();
        polynomial();
        polynomialRows();
        polynomialTo();
        sort();
        sortRows();
        manyCalls();
        check.end("PromisesTest");
    }

    private static void newObject() {
        check.sentence("1: 32 registers, 0 .. 31, all of them with the whole number 0");
        MixedNumbers x = new MixedNumbers();
        for (int r = 0; r < 32; r++) {
            check.has("new", x, r, "0");
        }
        for (int r : Check.noRegisters()) {
            check.due("kind(" + r + ")", x.kind(r), BAD);
        }
        for (int r = 0; r < 32; r++) {
            x.whole(r, r + 100);
        }
        for (int r = 0; r < 32; r++) {
            check.has("each register is one of its own", x, r, "" + (r + 100));
            check.has("each object is one of its own", new MixedNumbers(), r, "0");
        }
        check.due("BAD", MixedNumbers.BAD, BAD);
    }

    private static void whole() {
        check.sentence("2: A register gets a whole number: true");
        for (long v : new long[] {0, 1, -1, MIN, MAX, P53 + 1}) {
            for (int r = 0; r < 32; r++) {
                MixedNumbers x = check.row(0, "9", "5r-1", "+inf", "-inf", "none", "0r0");
                long[] before = check.all(x);
                check.due("whole(" + r + ", " + v + ")", x.whole(r, v), true);
                check.has("whole", x, r, Long.toString(v));
                check.stays("whole", x, before, r);
            }
        }
        check.sentence("2: false when there is no such register");
        for (int r : Check.noRegisters()) {
            check.refused("whole(" + r + ", 1)", x -> x.whole(r, 1));
        }
    }

    private static void realIsTwiceRounded() {
        check.sentence("3: A register gets the nearest of (the nearest of m) * 2^e: true");
        check.realIs(5, -1, "5r-1");
        check.realIs(-12, 3, "-3r5");
        check.realIs(P53 + 1, 0, "1r53");
        check.realIs(P53 + 3, 0, "2251799813685249r2");
        check.realIs(-P53 - 3, 0, "-2251799813685249r2");
        check.realIs(MAX, 0, "1r63");
        check.realIs(MIN, 0, "-1r63");
        check.realIs(MIN, -63, "-1r0");
        check.realIs(MAX, -1200, "0r0");
        // 2^54 + 1 first loses its 1; then 2^-1075 is a tie, which it would not be with the 1.
        check.realIs((1L << 54) + 1, -1129, "0r0");
        check.realIs(-(1L << 54) - 1, -1129, "0r0");
        check.realIs((1L << 54) + 3, -1129, LEAST);
        // 3 * 2^54 - 1 first becomes 3 * 2^54; then the tie goes up to the even one.
        check.realIs((3L << 54) - 1, -1129, "1r-1073");
        check.realIs((3L << 53) - 1, -1128, "1r-1073");
        check.realIs((3L << 53) - 4, -1128, LEAST);
        for (int r = 0; r < 32; r++) {
            MixedNumbers x = check.row(0, "9", "5r-1", "+inf", "-inf", "none", "0r0");
            long[] before = check.all(x);
            check.due("real(" + r + ", 3, -2)", x.real(r, 3, -2), true);
            check.has("real", x, r, "3r-2");
            check.stays("real", x, before, r);
        }
    }

    private static void realRefused() {
        check.sentence("3: false when there is no such register");
        for (int r : Check.noRegisters()) {
            check.refused("real(" + r + ", 1, 0)", x -> x.real(r, 1, 0));
            check.refused("real(" + r + ", 1, 1201)", x -> x.real(r, 1, 1201));
        }
        check.sentence("3: false when e is not -1200 .. 1200");
        for (int e : new int[] {1201, -1201, 1202, -1202, 4096, HIGHEST_INT, LOWEST_INT}) {
            for (long m : new long[] {0, 1, -1, MIN, MAX}) {
                check.refused("real(0, " + m + ", " + e + ")", x -> x.real(0, m, e));
            }
        }
        check.realIs(0, 1200, "0r0");
        check.realIs(0, -1200, "0r0");
        check.realIs(1, 1200, "+inf");
        check.realIs(-1, 1200, "-inf");
        check.realIs(1, -1200, "0r0");
        check.realIs(1, 1199, "+inf");
        check.realIs(1, -1199, "0r0");
    }

    private static void special() {
        check.sentence("4: A register gets plus infinity (3), minus infinity (4) or the no-number (5): true");
        for (int kind = 3; kind <= 5; kind++) {
            for (int r = 0; r < 32; r++) {
                MixedNumbers x = check.row(0, "9", "5r-1", "+inf", "-inf", "none", "0r0");
                long[] before = check.all(x);
                check.due("special(" + r + ", " + kind + ")", x.special(r, kind), true);
                check.value("special", x, r, kind, 0, 0);
                check.stays("special", x, before, r);
            }
        }
        check.sentence("4: false when there is no such register");
        for (int r : Check.noRegisters()) {
            check.refused("special(" + r + ", 3)", x -> x.special(r, 3));
            check.refused("special(" + r + ", 5)", x -> x.special(r, 5));
        }
        check.sentence("4: false when kind is another one");
        for (int kind : new int[] {2, 6, 1, 0, -1, 7, -3, LOWEST_INT, HIGHEST_INT}) {
            check.refused("special(4, " + kind + ")", x -> x.special(4, kind));
        }
    }

    private static void operateTo() {
        check.sentence("5: what comes of it goes to a register: 0");
        for (int to = 0; to < 32; to++) {
            MixedNumbers x = check.row(4, "9", "-5r-1");
            long[] before = check.all(x);
            check.due("operate(0, " + to + ", 4, 5)", x.operate(0, to, 4, 5), 0);
            check.has("operate(0, " + to + ", 4, 5)", x, to, "13r-1");
            check.stays("operate", x, before, to);
        }
        MixedNumbers x = check.row(31, "3");
        check.due("operate(2, 31, 31, 31)", x.operate(2, 31, 31, 31), 0);
        check.has("operate(2, 31, 31, 31)", x, 31, "9");
        check.due("operate(6, 31, 31, 31)", x.operate(6, 31, 31, 31), 0);
        check.has("operate(6, 31, 31, 31)", x, 31, "387420489r0");
        check.due("operate(5, 31, 31, 31)", x.operate(5, 31, 31, 31), 0);
        check.has("operate(5, 31, 31, 31)", x, 31, "0r0");
    }

    private static void operateErrors() {
        check.sentence("5: the number of the error (the register stays then)");
        check.error(4, "5", "0", 1);
        check.error(5, "5", "0", 1);
        check.error(6, "5r-1", "1r-1", 3);
        for (int what = 7; what <= 11; what++) {
            check.error(what, "5r-1", "1", 2);
            check.error(what, "1", "none", 2);
        }
        check.error(13, "5r-1", "1", 2);
        check.error(16, "-inf", "1", 2);
    }

    private static void operateBad() {
        check.sentence("5: BAD when there are no such registers");
        for (int r : Check.noRegisters()) {
            for (int what = 0; what <= 11; what++) {
                badOperate(what, r);
            }
        }
        check.sentence("5: b has to be one also for 12 to 17");
        for (int r : Check.noRegisters()) {
            for (int what = 12; what <= 17; what++) {
                badOperate(what, r);
            }
        }
        check.sentence("5: BAD when there is no such operation");
        for (int what : new int[] {-1, 18, 19, -2, 256, LOWEST_INT, HIGHEST_INT}) {
            check.refused("operate(" + what + ", 0, 4, 5)", x -> x.operate(what, 0, 4, 5), BAD);
            check.refused("operate(" + what + ", 0, 3, 6)", x -> x.operate(what, 0, 3, 6), BAD);
            check.refused("operate(" + what + ", 32, 0, 0)", x -> x.operate(what, 32, 0, 0), BAD);
        }
    }

    private static void badOperate(int what, int r) {
        String call = "operate(" + what + ", ";
        check.refused(call + r + ", 0, 4)", x -> x.operate(what, r, 0, 4), BAD);
        check.refused(call + "0, " + r + ", 4)", x -> x.operate(what, 0, r, 4), BAD);
        check.refused(call + "0, 4, " + r + ")", x -> x.operate(what, 0, 4, r), BAD);
        check.refused(call + r + ", " + r + ", " + r + ")", x -> x.operate(what, r, r, r), BAD);
        // Where there would be an error as well: a no-number as an operand.
        check.refused(call + r + ", 3, 3)", x -> x.operate(what, r, 3, 3), BAD);
        check.refused(call + "0, 3, " + r + ")", x -> x.operate(what, 0, 3, r), BAD);
    }

    private static void compareSizes() {
        check.sentence("6: equal (0), less (1), less or equal (2): 1 or 0");
        check.order("2", "3", -1);
        check.order("-3", "-2", -1);
        check.order("3", "3", 0);
        check.order("3r-1", "5r-1", -1);
        check.order("3r-1", "3r-1", 0);
        check.order("+inf", "+inf", 0);
        MixedNumbers same = check.row(8, "5r-1");
        check.due("compare(0, 8, 8)", same.compare(0, 8, 8), 1);
        check.due("compare(1, 8, 8)", same.compare(1, 8, 8), 0);
        check.due("compare(2, 8, 8)", same.compare(2, 8, 8), 1);
        check.sentence("6: exactly, whole numbers and reals by their size");
        // Each is less than all that come after it, whatever their kinds are.
        String[] rising = {"-inf", LOWEST, "-1r64", "-4503599627370497r11", "" + MIN, "" + (MIN + 1),
            "-9007199254740991r10", "-9007199254740993", "-1r53", "-9007199254740991", "-3", "-5r-1", "-2",
            "-9007199254740991r-53", "-1r-64", "-1r-1074", "0", LEAST, "1r-1073", "1r-64", "1r-1",
            "9007199254740991r-53", "1", "9007199254740991r-52", "2", "9007199254740991", "1r53",
            "9007199254740993", "4503599627370497r1", "9223372036854774784", "9223372036854774785", "" + (MAX - 1), "" + MAX, "1r63", "1r64",
            "9007199254740991r970", GREATEST, "+inf"};
        for (int i = 0; i < rising.length; i++) {
            for (int k = i; k < rising.length; k++) {
                check.order(rising[i], rising[k], i == k ? 0 : -1);
            }
        }
        check.order("" + MIN, "-1r63", 0);
        check.order("0", "0r0", 0);
        check.order("12", "3r2", 0);
        check.order("-7", "-7r0", 0);
        check.order("9223372036854774784", "9007199254740991r10", 0);
    }

    private static void compareNoNumber() {
        check.sentence("6: with a no-number 0");
        for (String v : new String[] {"0", "-5", "5r-1", "0r0", "+inf", "-inf", "none", "" + MIN, GREATEST}) {
            check.order("none", v, 2);
            check.order(v, "none", 2);
        }
        MixedNumbers x = check.row(8, "none");
        for (int what = 0; what <= 2; what++) {
            check.due("compare(" + what + ", 8, 8)", x.compare(what, 8, 8), 0);
        }
    }

    private static void compareBad() {
        check.sentence("6: BAD when there are no such registers");
        for (int r : Check.noRegisters()) {
            for (int what = 0; what <= 2; what++) {
                int asked = what;
                check.refused("compare(" + what + ", 0, " + r + ")", x -> x.compare(asked, 0, r), BAD);
                check.refused("compare(" + what + ", " + r + ", 0)", x -> x.compare(asked, r, 0), BAD);
                check.refused("compare(" + what + ", " + r + ", 3)", x -> x.compare(asked, r, 3), BAD);
                check.refused("compare(" + what + ", " + r + ", " + r + ")", x -> x.compare(asked, r, r), BAD);
            }
        }
        check.sentence("6: BAD for another what");
        for (int what : new int[] {-1, 3, 4, LOWEST_INT, HIGHEST_INT}) {
            check.refused("compare(" + what + ", 0, 0)", x -> x.compare(what, 0, 0), BAD);
            check.refused("compare(" + what + ", 0, 4)", x -> x.compare(what, 0, 4), BAD);
            check.refused("compare(" + what + ", 3, 3)", x -> x.compare(what, 3, 3), BAD);
        }
    }

    private static void kind() {
        check.sentence("7: 1 a whole number, 2 a real, 3 plus infinity, 4 minus infinity, 5 the no-number");
        String[][] kinds = {{}, {"0", "5", "" + MIN}, {"0r0", "5r0", "-5r-1", GREATEST, LEAST},
            {"+inf"}, {"-inf"}, {"none"}};
        for (int kind = 1; kind <= 5; kind++) {
            for (String v : kinds[kind]) {
                check.due("kind of " + v, check.row(31, v).kind(31), kind);
            }
        }
        check.sentence("7: BAD when there is none such");
        for (int r : Check.noRegisters()) {
            check.refused("kind(" + r + ")", x -> x.kind(r), BAD);
        }
    }

    private static void number() {
        check.sentence("8: Of a whole number: itself");
        for (long v : new long[] {0, 12, -12, MIN, MAX, P53 + 1}) {
            check.due("number of " + v, check.row(31, "" + v).number(31), v);
        }
        check.sentence("8: Of a real: m, when it is written with the greatest e (0 for 0)");
        numberIs("12r0", 3);
        numberIs("-12r0", -3);
        numberIs("" + P53 + "r0", 1);
        numberIs(MIN + "r0", -1);
        numberIs("5r-1074", 5);
        numberIs("6r-1074", 3);
        numberIs("6r970", 3);
        numberIs("6r971", 6);
        numberIs("1r1023", P53 / 2);
        numberIs("-1r1022", -P53 / 4);
        numberIs(GREATEST, P53 - 1);
        numberIs("9007199254740990r971", P53 - 2);
        numberIs("9007199254740990r970", P53 / 2 - 1);
        numberIs("0r0", 0);
        numberIs("0r971", 0);
        check.sentence("8: 0 of others, and when there is no such register");
        for (String v : new String[] {"+inf", "-inf", "none"}) {
            numberIs(v, 0);
        }
        for (int r : Check.noRegisters()) {
            check.refused("number(" + r + ")", x -> x.number(r), 0);
        }
    }

    private static void numberIs(String text, long want) {
        MixedNumbers x = check.row(31, "7r-3");
        check.put(x, 31, text);
        check.due("number of " + text, x.number(31), want);
    }

    private static void exponent() {
        check.sentence("9: Of a real other than 0: the greatest e with which it is m * 2^e");
        exponentIs("12r0", 2);
        exponentIs("-12r0", 2);
        exponentIs("" + P53 + "r0", 53);
        exponentIs(MIN + "r0", 63);
        exponentIs("5r-1074", -1074);
        exponentIs("6r-1074", -1073);
        exponentIs("6r970", 971);
        exponentIs("6r971", 971);
        exponentIs("1r1023", 971);
        exponentIs("-1r1022", 971);
        exponentIs(GREATEST, 971);
        exponentIs("9007199254740990r971", 971);
        exponentIs("9007199254740990r970", 971);
        exponentIs("9007199254740990r969", 970);
        check.sentence("9: 0 of others, and when there is no such register");
        for (String v : new String[] {"0r0", "0r971", "0r-1074", "0", "12", "" + MIN, "+inf", "-inf", "none"}) {
            exponentIs(v, 0);
        }
        for (int r : Check.noRegisters()) {
            check.refused("exponent(" + r + ")", x -> x.exponent(r), 0);
        }
    }

    private static void exponentIs(String text, int want) {
        MixedNumbers x = check.row(31, "7r-3");
        check.put(x, 31, text);
        check.due("exponent of " + text, x.exponent(31), want);
    }

    private static void sumIs(String want, String... values) {
        int from = 32 - values.length;
        MixedNumbers x = check.row(from, values);
        long[] before = check.all(x);
        check.due("sum", x.sum(0, from, values.length), true);
        check.has("sum of " + String.join(", ", values), x, 0, want);
        check.stays("sum", x, before, 0);
    }

    private static void sum() {
        check.sentence("10: The sum of the registers from one on, n of them, by 0 (a + b)");
        sumIs("6", "1", "2", "3");
        sumIs("7r-1", "1", "5r-1");
        sumIs("" + MIN, "" + MAX, "1");
        sumIs("none", "+inf", "1", "-inf");
        sumIs("none", "1", "none", "2");
        sumIs("-inf", "1", "-inf", "1r-3");
        for (int from = 0; from <= 32; from++) {
            for (int n = 0; n <= 32 - from; n++) {
                sumOfBits(from, n);
            }
        }
        check.sentence("10: one after the other");
        sumIs("1r53", "1r53", "1", "1");
        sumIs("4503599627370497r1", "1", "1", "1r53");
        sumIs("1r53", "1", "1r53", "1");
        sumIs("0r0", "1", "1r60", "-1r60");
        sumIs("1r0", "1r60", "-1r60", "1");
        sumIs("-1r63", "" + MAX, "1", "0r0");
        sumIs("1r63", "0r0", "" + MAX, "1");
        check.sentence("10: beginning with the whole number 0");
        sumIs("0");
        sumIs("7", "7");
        sumIs("0r0", "0r0");
        sumIs("1r53", "9007199254740993r0");
        sumIs("9007199254740993", "9007199254740993");
        sumIs("+inf", "+inf");
        sumIs("none", "none");
    }

    // Each register has a bit of its own, so that the sum tells which of them were added.
    private static void sumOfBits(int from, int n) {
        MixedNumbers x = new MixedNumbers();
        for (int r = 0; r < 32; r++) {
            x.whole(r, 1L << r);
        }
        String call = "sum(7, " + from + ", " + n + ")";
        check.due(call, x.sum(7, from, n), true);
        check.has(call, x, 7, "" + (((1L << n) - 1) << from));
    }

    private static void refusedRows(String name, RowCall call) {
        int[][] below = {{-1, 0}, {-1, 1}, {-1, 33}, {LOWEST_INT, 0}, {LOWEST_INT, 1}, {LOWEST_INT, HIGHEST_INT}};
        check.sentence(name + ": false when from is less than 0");
        refusedEach(name, call, below);
        int[][] fewer = {{0, -1}, {5, -1}, {31, -1}, {32, -1}, {33, -1}, {0, LOWEST_INT}, {32, LOWEST_INT},
            {HIGHEST_INT, LOWEST_INT}, {-1, -1}, {LOWEST_INT, LOWEST_INT}};
        check.sentence(name + ": false when n is less than 0");
        refusedEach(name, call, fewer);
        int[][] beyond = {{0, 33}, {1, 32}, {10, 23}, {31, 2}, {32, 1}, {33, 0}, {33, 1}, {34, 0}, {0, HIGHEST_INT},
            {1, HIGHEST_INT}, {32, HIGHEST_INT}, {HIGHEST_INT, 0}, {HIGHEST_INT, 1}, {HIGHEST_INT, HIGHEST_INT}};
        check.sentence(name + ": false when from + n is more than 32");
        refusedEach(name, call, beyond);
    }

    private static void refusedEach(String name, RowCall call, int[][] rows) {
        for (int[] row : rows) {
            check.refused(name + " of " + row[0] + ", " + row[1], x -> call.of(x, row[0], row[1]));
        }
    }

    private static void allowedRows(String name, RowCall call) {
        int[][] rows = {{0, 0}, {0, 1}, {0, 32}, {1, 31}, {31, 1}, {31, 0}, {16, 16}};
        check.sentence(name + ": true when from is 0 or more, n, too, and from + n at most 32");
        for (int[] row : rows) {
            check.due(name + " of " + row[0] + ", " + row[1], call.of(new MixedNumbers(), row[0], row[1]), true);
        }
    }

    private static void sumRows() {
        refusedRows("10: sum", (x, from, n) -> x.sum(0, from, n));
        allowedRows("10: sum", (x, from, n) -> x.sum(0, from, n));
        check.sentence("10: false when there are no such registers: to");
        for (int r : Check.noRegisters()) {
            check.refused("sum(" + r + ", 0, 1)", x -> x.sum(r, 0, 1));
            check.refused("sum(" + r + ", 0, 0)", x -> x.sum(r, 0, 0));
            check.refused("sum(" + r + ", 32, 0)", x -> x.sum(r, 32, 0));
        }
        check.sentence("10: a row of none may begin at 32");
        for (int from = 0; from <= 32; from++) {
            MixedNumbers x = check.row(9, "5r-1");
            long[] before = check.all(x);
            check.due("sum(9, " + from + ", 0)", x.sum(9, from, 0), true);
            check.has("sum(9, " + from + ", 0)", x, 9, "0");
            check.stays("sum of none", x, before, 9);
        }
    }

    private static void sumTo() {
        check.sentence("10: the sum goes to a register, also one of the row");
        for (int to = 0; to < 32; to++) {
            MixedNumbers x = check.row(4, "1", "2", "3r-1", "4");
            long[] before = check.all(x);
            check.due("sum(" + to + ", 4, 4)", x.sum(to, 4, 4), true);
            check.has("sum(" + to + ", 4, 4)", x, to, "17r-1");
            check.stays("sum(" + to + ", 4, 4)", x, before, to);
        }
    }

    private static void polynomialIs(String want, String at, String... values) {
        String call = "polynomial at " + at + " of " + String.join(", ", values);
        int from = 31 - values.length;
        MixedNumbers x = check.row(from, values);
        check.put(x, 31, at);
        long[] before = check.all(x);
        check.due(call, x.polynomial(0, 31, from, values.length), true);
        check.has(call, x, 0, want);
        check.stays(call, x, before, 0);
    }

    private static void polynomial() {
        check.sentence("11: the factors of a polynomial, the lowest first");
        polynomialIs("321", "10", "1", "2", "3");
        polynomialIs("-3r2", "-2", "3", "7r-1", "-2");
        polynomialIs("1", "0", "1", "2", "3");
        polynomialIs("1r0", "0", "1", "5r-1");
        check.sentence("11: from the highest factor on, by 2 (times x), then 0 (plus the factor)");
        polynomialIs("" + MIN, "2", "0", "" + (1L << 62));
        polynomialIs("1r63", "2r0", "0", "" + (1L << 62));
        // 2^53 * 2 + 1 loses the 1; so does the last step.
        polynomialIs("1r55", "2", "1", "1", "1r53");
        polynomialIs("+inf", "1r600", "-1r1000", "0", "1");
        polynomialIs("none", "1r600", "-inf", "0", "1");
        polynomialIs("-inf", "-2", "1", "+inf");
        polynomialIs("none", "0", "1", "+inf");
        polynomialIs("none", "2", "1", "none", "1");
        check.sentence("11: beginning with the whole number 0");
        polynomialIs("0", "5");
        polynomialIs("0", "5r-1");
        polynomialIs("0", "none");
        polynomialIs("0", "+inf");
        polynomialIs("7", "5", "7");
        polynomialIs("9007199254740993", "5", "9007199254740993");
        // 0 times a real is a real, and 0 times an infinity is the no-number.
        polynomialIs("7r0", "3r0", "7");
        polynomialIs("none", "+inf", "7");
        polynomialIs("none", "-inf", "1", "2");
        polynomialIs("none", "none", "7");
        polynomialIs("+inf", "2", "+inf");
    }

    private static void polynomialRows() {
        refusedRows("11: polynomial", (x, from, n) -> x.polynomial(0, 4, from, n));
        allowedRows("11: polynomial", (x, from, n) -> x.polynomial(0, 4, from, n));
        check.sentence("11: false likewise: no such registers to, x");
        for (int r : Check.noRegisters()) {
            for (int n = 0; n <= 1; n++) {
                int count = n;
                check.refused("polynomial(" + r + ", 0, 0, " + n + ")", x -> x.polynomial(r, 0, 0, count));
                check.refused("polynomial(0, " + r + ", 0, " + n + ")", x -> x.polynomial(0, r, 0, count));
            }
            check.refused("polynomial(0, " + r + ", 32, 0)", x -> x.polynomial(0, r, 32, 0));
            check.refused("polynomial(" + r + ", 0, 32, 0)", x -> x.polynomial(r, 0, 32, 0));
        }
        check.sentence("11: a row of none may begin at 32");
        for (int from = 0; from <= 32; from++) {
            MixedNumbers x = check.row(9, "5r-1");
            long[] before = check.all(x);
            check.due("polynomial(9, 9, " + from + ", 0)", x.polynomial(9, 9, from, 0), true);
            check.has("polynomial(9, 9, " + from + ", 0)", x, 9, "0");
            check.stays("polynomial of none", x, before, 9);
        }
    }

    private static void polynomialTo() {
        check.sentence("11: x has what it had, also when to is x or one of the factors");
        for (int to = 0; to < 32; to++) {
            MixedNumbers x = check.row(4, "1", "2", "3", "10");
            long[] before = check.all(x);
            check.due("polynomial(" + to + ", 7, 4, 3)", x.polynomial(to, 7, 4, 3), true);
            check.has("polynomial(" + to + ", 7, 4, 3)", x, to, "321");
            check.stays("polynomial(" + to + ", 7, 4, 3)", x, before, to);
        }
        // x is one of the factors: 2 + 3 * x + 5 * x^2 for x = 2, 3, 5.
        String[] want = {"28", "56", "142"};
        for (int at = 0; at < 3; at++) {
            for (int to = 0; to < 4; to++) {
                MixedNumbers x = check.row(0, "2", "3", "5");
                long[] before = check.all(x);
                String call = "polynomial(" + to + ", " + at + ", 0, 3)";
                check.due(call, x.polynomial(to, at, 0, 3), true);
                check.has(call, x, to, want[at]);
                check.stays(call, x, before, to);
            }
        }
    }

    private static void sorted(String values, String want) {
        String[] row = values.isEmpty() ? new String[0] : values.split(" ");
        String[] wanted = want.isEmpty() ? new String[0] : want.split(" ");
        int from = 31 - row.length;
        MixedNumbers x = check.row(from, row);
        x.whole(from - 1, MAX);
        x.whole(31, MIN);
        check.due("sort", x.sort(from, row.length), true);
        for (int i = 0; i < wanted.length; i++) {
            check.has("sort of " + values, x, from + i, wanted[i]);
        }
        check.has("before the row", x, from - 1, "" + MAX);
        check.has("behind the row", x, 31, "" + MIN);
    }

    private static void sort() {
        check.sentence("12: a register goes before another one when it is less");
        sorted("5", "5");
        sorted("2 1", "1 2");
        sorted("1 2 3 4 5", "1 2 3 4 5");
        sorted("5 4 3 2 1", "1 2 3 4 5");
        sorted("3 5r-1 2 +inf -inf 0r0", "-inf 0r0 2 5r-1 3 +inf");
        sorted("1r63 " + MAX + " -1r64 " + MIN, "-1r64 " + MIN + " " + MAX + " 1r63");
        sorted("9007199254740993 1r53 9007199254740991", "9007199254740991 1r53 9007199254740993");
        sorted("-1r-1074 0 1r-1074 -5 " + LOWEST + " " + GREATEST,
            LOWEST + " -5 -1r-1074 0 1r-1074 " + GREATEST);
        check.sentence("12: equal ones keep their order");
        sorted("3r0 1 3 1r0 3r0", "1 1r0 3r0 3 3r0");
        sorted("3 1r0 3r0 1 3", "1r0 1 3 3r0 3");
        sorted("0 0r0 0", "0 0r0 0");
        sorted("0r0 0 0r0 -1", "-1 0r0 0 0r0");
        sorted("-1r63 " + MIN, "-1r63 " + MIN);
        sorted(MIN + " -1r63", MIN + " -1r63");
        everyRowOfFour();
        check.sentence("12: a no-number goes behind all others (these keep theirs)");
        sorted("none 2 none 1", "1 2 none none");
        sorted("none +inf none -inf", "-inf +inf none none");
        sorted("none 3 none 3r0 none 1", "1 3 3r0 none none none");
        sorted("3r0 none 3 none", "3r0 3 none none");
        sorted("none", "none");
        sorted("none none", "none none");
        sorted("+inf none 9007199254740993 1r53 9007199254740992 none",
            "1r53 9007199254740992 9007199254740993 +inf none none");
    }

    // By a plain count: before each of these go those that are less, and equal ones from its left.
    private static void everyRowOfFour() {
        String[] values = {"1", "1r0", "3", "3r0", "-1"};
        int[] sizes = {1, 1, 3, 3, -1};
        for (int code = 0; code < 625; code++) {
            int[] row = {code % 5, code / 5 % 5, code / 25 % 5, code / 125};
            List<Integer> want = new ArrayList<>();
            for (int size : new int[] {-1, 1, 3}) {
                for (int v : row) {
                    if (sizes[v] == size) {
                        want.add(v);
                    }
                }
            }
            StringBuilder before = new StringBuilder();
            StringBuilder after = new StringBuilder();
            for (int i = 0; i < 4; i++) {
                before.append(i > 0 ? " " : "").append(values[row[i]]);
                after.append(i > 0 ? " " : "").append(values[want.get(i)]);
            }
            sorted(before.toString(), after.toString());
        }
    }

    private static void sortRows() {
        refusedRows("12: sort", (x, from, n) -> x.sort(from, n));
        allowedRows("12: sort", (x, from, n) -> x.sort(from, n));
        check.sentence("12: a row of none may begin at 32");
        for (int from = 0; from <= 32; from++) {
            MixedNumbers x = check.row(0, "9", "none", "-5r-1", "1");
            long[] before = check.all(x);
            check.due("sort(" + from + ", 0)", x.sort(from, 0), true);
            check.stays("sort of none", x, before, -1);
        }
        check.sentence("12: Sorts the registers from one on, n of them");
        for (int from = 0; from < 32; from++) {
            for (int n = 0; n <= 32 - from; n++) {
                sortedFrom(from, n);
            }
        }
        check.sentence("12: each register is one of its own after a sort");
        MixedNumbers x = check.row(0, "3", "1", "2");
        x.sort(0, 3);
        x.whole(0, 100);
        check.has("after a sort", x, 1, "2");
        check.has("after a sort", x, 2, "3");
        x.operate(0, 1, 0, 2);
        check.has("after a sort", x, 1, "103");
        check.has("after a sort", x, 2, "3");
    }

    // The registers fall from 31 to 0; the row rises afterwards, and the others stay.
    private static void sortedFrom(int from, int n) {
        MixedNumbers x = new MixedNumbers();
        for (int r = 0; r < 32; r++) {
            x.whole(r, 31 - r);
        }
        String call = "sort(" + from + ", " + n + ")";
        check.due(call, x.sort(from, n), true);
        for (int r = 0; r < 32; r++) {
            boolean inRow = r >= from && r < from + n;
            int want = inRow ? 31 - (from + n - 1 - (r - from)) : 31 - r;
            check.has(call, x, r, "" + want);
        }
    }

    private static void manyCalls() {
        check.sentence("An object is used for at most 512 calls after it has been made");
        MixedNumbers x = new MixedNumbers();
        for (int call = 1; call <= 510; call++) {
            check.due("operate", x.operate(call % 2 == 0 ? 13 : 12, 31, 31, 0), 0);
        }
        // -a, then all bits turned round, which is a - 1: 255 times.
        check.due("call 511", x.kind(31), 1);
        check.due("call 512", x.number(31), -255);
    }
}
