/** Counts the answers that are not as due, prints them, and ends the program accordingly. */
final class Check {
    private static final int MOST_PRINTED = 50;

    private final String test;
    private long looked = 0;
    private long wrong = 0;

    Check(String test) {
        this.test = test;
    }

    void due(String call, long got, long want) {
        looked++;
        if (got != want) {
            report(call + " answered " + got + ", due is " + want);
        }
    }

    void holds(String what, boolean truth) {
        looked++;
        if (!truth) {
            report("does not hold: " + what);
        }
    }

    private void report(String text) {
        wrong++;
        if (wrong <= MOST_PRINTED) {
            System.out.println(test + ": " + text);
        }
    }

    void end() {
        System.out.println(test + ": " + looked + " looked at, " + wrong + " not as due");
        if (wrong != 0 || looked == 0) {
            System.exit(1);
        }
    }
}
