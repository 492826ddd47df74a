import java.util.Arrays;
import java.util.function.Predicate;
import java.util.function.ToLongFunction;

/**
 * Asks for answers, and prints each that is not the one due, with the sentence of the document
 * that it breaks. A value stands as a text: "7" is whole, "7r-1" is the real 7 * 2^-1; the
 * others are "+inf", "-inf" and "none". A text of what is due has the number and the exponent
 * that are to be answered.
 */
final class Check {
    static final int WHOLE = 1;
    static final int REAL = 2;
    static final int PLUS = 3;
    static final int MINUS = 4;
    static final int NONE = 5;
    static final int REGISTERS = 32;
    static final long MIN = Long.MIN_VALUE;
    static final long MAX = Long.MAX_VALUE;
    static final long P53 = 1L << 53;
    static final String GREATEST = "9007199254740991r971";
    static final String LOWEST = "-9007199254740991r971";
    static final String LEAST = "1r-1074";

    private static final int[] NO_REGISTERS = {-1, 32, 33, 64, Integer.MIN_VALUE, Integer.MAX_VALUE};
    private static final int PRINTED = 50;

    private String sentence = "";
    private int askedOfSentence = 1;
    private int sentences = 0;
    private int wrong = 0;
    private int asked = 0;

    /** Those that are no registers: just beyond 0 .. 31, and as far beyond as can be. */
    static int[] noRegisters() {
        return NO_REGISTERS.clone();
    }

    /** What is asked from here on is due by this sentence. */
    void sentence(String text) {
        closeSentence();
        sentence = text;
        askedOfSentence = 0;
        sentences++;
    }

    private void closeSentence() {
        if (askedOfSentence == 0) {
            wrong++;
            System.out.println("nothing was asked for: " + sentence);
        }
    }

    void due(String call, long got, long want) {
        asked++;
        askedOfSentence++;
        if (got != want) {
            wrong++;
            if (wrong <= PRINTED) {
                System.out.println(call + " answered " + got + ", due is " + want
                    + (sentence.isEmpty() ? "" : " [" + sentence + "]"));
            }
        }
    }

    void due(String call, boolean got, boolean want) {
        due(call, got ? 1 : 0, want ? 1 : 0);
    }

    void value(String call, MixedNumbers x, int r, int kind, long number, int exponent) {
        due(call + ": kind(" + r + ")", x.kind(r), kind);
        due(call + ": number(" + r + ")", x.number(r), number);
        due(call + ": exponent(" + r + ")", x.exponent(r), exponent);
    }

    void put(MixedNumbers x, int r, String text) {
        int kind = specialKind(text);
        if (kind != 0) {
            due("special " + text, x.special(r, kind), true);
        } else if (text.indexOf('r') >= 0) {
            due("real " + text, x.real(r, numberOf(text), exponentOf(text)), true);
        } else {
            due("whole " + text, x.whole(r, Long.parseLong(text)), true);
        }
    }

    void has(String call, MixedNumbers x, int r, String text) {
        int kind = specialKind(text);
        if (kind != 0) {
            value(call, x, r, kind, 0, 0);
        } else if (text.indexOf('r') >= 0) {
            value(call, x, r, REAL, numberOf(text), exponentOf(text));
        } else {
            value(call, x, r, WHOLE, Long.parseLong(text), 0);
        }
    }

    private static int specialKind(String text) {
        return text.equals("+inf") ? PLUS : text.equals("-inf") ? MINUS : text.equals("none") ? NONE : 0;
    }

    private static long numberOf(String text) {
        return Long.parseLong(text.substring(0, text.indexOf('r')));
    }

    private static int exponentOf(String text) {
        return Integer.parseInt(text.substring(text.indexOf('r') + 1));
    }

    /** A new object with these values from a register on. */
    MixedNumbers row(int from, String... values) {
        MixedNumbers x = new MixedNumbers();
        for (int i = 0; i < values.length; i++) {
            put(x, from + i, values[i]);
        }
        return x;
    }

    void realIs(long m, int e, String want) {
        MixedNumbers x = new MixedNumbers();
        String call = "real(0, " + m + ", " + e + ")";
        due(call, x.real(0, m, e), true);
        has(call, x, 0, want);
    }

    /** The operation to a register of its own, then to the place of each operand. */
    void operation(int what, String a, String b, String want) {
        for (int to : new int[] {0, 3, 31}) {
            String call = "operation " + what + " of " + a + " and " + b + " to " + to;
            MixedNumbers x = operands(a, b);
            long[] before = all(x);
            due(call, x.operate(what, to, 3, 31), 0);
            has(call, x, to, want);
            stays(call, x, before, to);
        }
    }

    /** The operation has this error, and every register stays. */
    void error(int what, String a, String b, int want) {
        for (int to : new int[] {0, 3, 31}) {
            String call = "operation " + what + " of " + a + " and " + b + " to " + to;
            MixedNumbers x = operands(a, b);
            x.whole(0, 77);
            long[] before = all(x);
            due(call, x.operate(what, to, 3, 31), want);
            stays(call, x, before, -1);
        }
    }

    private MixedNumbers operands(String a, String b) {
        MixedNumbers x = new MixedNumbers();
        put(x, 3, a);
        put(x, 31, b);
        return x;
    }

    /** A comparison both ways: a is below b (-1), equal to it (0), or neither way anything (2). */
    void order(String a, String b, int want) {
        MixedNumbers x = new MixedNumbers();
        put(x, 0, a);
        put(x, 31, b);
        long[] before = all(x);
        String call = "compare " + a + " with " + b;
        due(call + ", 0", x.compare(0, 0, 31), want == 0 ? 1 : 0);
        due(call + ", 1", x.compare(1, 0, 31), want < 0 ? 1 : 0);
        due(call + ", 2", x.compare(2, 0, 31), want <= 0 ? 1 : 0);
        due(call + ", 0 back", x.compare(0, 31, 0), want == 0 ? 1 : 0);
        due(call + ", 1 back", x.compare(1, 31, 0), 0);
        due(call + ", 2 back", x.compare(2, 31, 0), want == 0 ? 1 : 0);
        stays(call, x, before, -1);
    }

    /** The call answers this, and every register stays, whatever was in it. */
    void refused(String call, ToLongFunction<MixedNumbers> made, long want) {
        MixedNumbers x = row(0, "9", "-5r-1", "+inf", "none", "2", "1", "0r0", "-inf");
        put(x, 31, "6");
        long[] before = all(x);
        due(call, made.applyAsLong(x), want);
        stays(call, x, before, -1);
    }

    void refused(String call, Predicate<MixedNumbers> made) {
        ToLongFunction<MixedNumbers> counted = x -> made.test(x) ? 1 : 0;
        refused(call, counted, 0);
    }

    /** All that the registers answer. */
    long[] all(MixedNumbers x) {
        long[] values = new long[3 * REGISTERS];
        for (int r = 0; r < REGISTERS; r++) {
            values[3 * r] = x.kind(r);
            values[3 * r + 1] = x.number(r);
            values[3 * r + 2] = x.exponent(r);
        }
        return values;
    }

    /** The registers are what they were, but for one, or for none when that is no register. */
    void stays(String call, MixedNumbers x, long[] before, int except) {
        long[] now = all(x);
        for (int r = 0; r < REGISTERS; r++) {
            long[] was = Arrays.copyOfRange(before, 3 * r, 3 * r + 3);
            long[] is = Arrays.copyOfRange(now, 3 * r, 3 * r + 3);
            if (r != except) {
                due(call + ": register " + r + " stays", Arrays.equals(was, is), true);
            }
        }
    }

    /** Ends the program, with exit code 1 if an answer was wrong or none was asked for. */
    void end(String name) {
        closeSentence();
        System.out.println(name + ": " + (sentences > 0 ? sentences + " sentences, " : "")
            + asked + " answers, " + wrong + " not as due");
        System.exit(wrong == 0 && asked > 0 ? 0 : 1);
    }
}
