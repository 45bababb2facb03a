/** Counts the answers that are not as due and ends the test accordingly. */
final class Check {
    private static final int MOST_PRINTED = 12;

    private String sentence = "";
    private int sentences = 0;
    private int looked = 0;
    private int wrong = 0;
    private int printed = 0;

    /** From here on the answers belong to this sentence of the document, which is told with each wrong one. */
    void sentence(String where, String words) {
        sentence = where + " \"" + words + "\": ";
        sentences++;
        printed = 0;
    }

    /** Runs the tests one by one: a call that throws is wrong too, and must not hide the tests after it. */
    void each(Runnable... tests) {
        for (Runnable test : tests) {
            try {
                test.run();
            } catch (RuntimeException thrown) {
                tell("a call threw " + thrown);
            }
        }
        end();
    }

    void due(String call, long got, long want) {
        looked++;
        if (got != want) {
            tell(call + " answered " + got + ", due is " + want);
        }
    }

    void due(String what, String got, String want) {
        looked++;
        if (!got.equals(want)) {
            tell(what + " is [" + got + "], due is [" + want + "]");
        }
    }

    void holds(String what, boolean is) {
        looked++;
        if (!is) {
            tell("does not hold: " + what);
        }
    }

    // Each sentence has its own share of lines, so that a noisy one hides no other.
    private void tell(String line) {
        wrong++;
        printed++;
        if (printed <= MOST_PRINTED) {
            System.out.println(sentence + line);
        }
    }

    boolean anyWrong() {
        return wrong != 0;
    }

    void end() {
        if (wrong != 0) {
            System.out.println(wrong + " of " + looked + " answers are not as due");
            System.exit(1);
        }
        String of = sentences == 0 ? "" : " for " + sentences + " sentences";
        System.out.println("all " + looked + " answers are as due" + of);
    }
}
