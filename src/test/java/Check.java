/** Counts and prints the answers that are not as due. */
final class Check {
    private int wrong;
    private int made;
    private int sentences;
    private String words = "";
    private int madeBefore;

    /** What is asked from here on tests these words of the document. */
    void sentence(String quote) {
        endSentence();
        sentences++;
        words = quote;
        madeBefore = made;
    }

    private void endSentence() {
        if (!words.isEmpty() && made == madeBefore) {
            wrong++;
            System.out.println("nothing is asked for: " + words);
        }
    }

    void due(String what, long got, long want) {
        made++;
        if (got != want) {
            wrong++;
            System.out.println(what + " answered " + got + ", due is " + want
                    + (words.isEmpty() ? "" : ", by: " + words));
        }
    }

    void due(String what, boolean got, boolean want) {
        due(what, got ? 1 : 0, want ? 1 : 0);
    }

    /** Ends the test: exit code 1 when an answer was wrong. */
    void end() {
        endSentence();
        System.out.println((sentences == 0 ? "" : sentences + " sentences, ") + made + " answers, " + wrong + " wrong");
        if (wrong != 0) System.exit(1);
    }

    static long bits(int... numbers) {
        long sum = 0;
        for (int n : numbers) sum |= 1L << n;
        return sum;
    }
}
