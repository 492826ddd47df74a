/** Counts the answers that are not the ones due, and prints each of them. */
final class Check {
    private static final int PRINTED = 50;

    private int wrong = 0;
    private int asked = 0;

    void due(String call, long got, long want) {
        asked++;
        if (got != want) {
            wrong++;
            if (wrong <= PRINTED) {
                System.out.println(call + " answered " + got + ", due is " + want);
            }
        }
    }

    void due(String call, boolean got, boolean want) {
        due(call, got ? 1 : 0, want ? 1 : 0);
    }

    void value(String call, MixedNumbers x, int r, int kind, long number, int exponent) {
        due(call + ": kind(" + r + ")", x.kind(r), kind);
        due(call + ": number(" + r + ")", x.number(r), number);
        due(call + ": exponent(" + r + ")", x.exponent(r), exponent);
    }

    /** Ends the program, with exit code 1 if an answer was wrong or none was asked for. */
    void end(String name) {
        System.out.println(name + ": " + asked + " answers, " + wrong + " not as due");
        System.exit(wrong == 0 && asked > 0 ? 0 : 1);
    }
}
