/** Counts the answers that are not as due and ends the test accordingly. */
final class Check {
    private static final int MOST_PRINTED = 40;

    private int looked = 0;
    private int wrong = 0;

    void due(String call, long got, long want) {
        looked++;
        if (got == want) {
            return;
        }
        wrong++;
        if (wrong <= MOST_PRINTED) {
            System.out.println(call + " answered " + got + ", due is " + want);
        }
    }

    void holds(String what, boolean is) {
        looked++;
        if (is) {
            return;
        }
        wrong++;
        if (wrong <= MOST_PRINTED) {
            System.out.println("does not hold: " + what);
        }
    }

    boolean anyWrong() {
        return wrong != 0;
    }

    void end() {
        if (wrong != 0) {
            System.out.println(wrong + " of " + looked + " answers are not as due");
            System.exit(1);
        }
        System.out.println("all " + looked + " answers are as due");
    }
}
