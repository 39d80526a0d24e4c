/** Counts the answers that are not as due, and prints them. */
final class Check {
    private static final int MOST_PRINTED = 40;
    private int seen = 0;
    private int wrong = 0;

    void due(String call, long got, long want) {
        seen++;
        if (got == want) {
            return;
        }
        wrong++;
        if (wrong <= MOST_PRINTED) {
            System.out.println(call + " answered " + got + ", due is " + want);
        }
    }

    void isTrue(String what, boolean holds) {
        due(what, holds ? 1 : 0, 1);
    }

    /** Ends the test: exit code 1 if an answer was wrong. */
    void end() {
        if (wrong != 0) {
            System.out.println(wrong + " of " + seen + " answers are not as due");
            System.exit(1);
        }
        System.out.println("all " + seen + " answers are as due");
    }
}
