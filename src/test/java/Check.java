/** Counts the answers that are not as due, and prints them. */
final class Check {
    private static final int MOST_PRINTED = 40;
    private int seen = 0;
    private int wrong = 0;
    private int sentences = 0;
    private String sentence = "";

    void due(String call, long got, long want) {
        seen++;
        if (got == want) {
            return;
        }
        wrong++;
        if (wrong <= MOST_PRINTED) {
            System.out.println(sentence + call + " answered " + got + ", due is " + want);
        }
    }

    void isTrue(String what, boolean holds) {
        due(what, holds ? 1 : 0, 1);
    }

    /** The test of one sentence of the document; the words are printed with what breaks them. */
    void sentence(String words, Runnable test) {
        int before = seen;
        sentence = "'" + words + "': ";
        sentences++;
        test.run();
        isTrue("a test that asks something", seen > before);
        sentence = "";
    }

    /** Ends the test: exit code 1 if an answer was wrong. */
    void end() {
        if (wrong != 0) {
            System.out.println(wrong + " of " + seen + " answers are not as due");
            System.exit(1);
        }
        String of = sentences == 0 ? "" : ", of " + sentences + " sentences,";
        System.out.println("all " + seen + " answers" + of + " are as due");
    }
}
