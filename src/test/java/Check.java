/** Counts the answers that are not as due and prints the first of them. */
final class Check {
    private static final int MOST_PRINTED = 10;

    private final String test;
    private long looked = 0;
    private long wrong = 0;

    Check(String test) {
        this.test = test;
    }

    void due(String call, long got, long want) {
        looked++;
        if (got != want) {
            report(call + " answered " + got + ", due is " + want);
        }
    }

    void same(String what, String got, String want) {
        looked++;
        if (!got.equals(want)) {
            report(what + ": answered" + got + ", due are" + want);
        }
    }

    void holds(String what, boolean truth) {
        looked++;
        if (!truth) {
            report("does not hold: " + what);
        }
    }

    private void report(String text) {
        wrong++;
        if (wrong <= MOST_PRINTED) {
            System.out.println(test + ": " + text);
        }
    }

    long looked() {
        return looked;
    }

    /** A test that looked at nothing has shown nothing. */
    boolean isGood() {
        return wrong == 0 && looked > 0;
    }

    void end() {
        System.out.println(test + ": " + looked + " looked at, " + wrong + " not as due");
        if (!isGood()) {
            System.exit(1);
        }
    }
}
