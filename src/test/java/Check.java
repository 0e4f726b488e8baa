/** Counts answers that are not the ones due, prints each, and ends the test with exit code 1 if there was one. */
final class Check {
    private final String test;
    private int looked = 0;
    private int wrong = 0;

    Check(String test) {
        this.test = test;
    }

    void due(String call, long got, long want) {
        looked++;
        if (got != want) {
            report(call + " answered " + got + ", due is " + want);
        }
    }

    void due(String call, boolean got, boolean want) {
        looked++;
        if (got != want) {
            report(call + " answered " + got + ", due is " + want);
        }
    }

    /** The four answers about w in one line: L2, L, completable, next tokens as letters. */
    void word(RegApprox x, String where, String want) {
        looked++;
        String got = Given.answers(x);
        if (!got.equals(want)) {
            report(where + " answered \"" + got + "\", due is \"" + want + "\"");
        }
    }

    private void report(String line) {
        wrong++;
        if (wrong <= 20) {
            System.out.println(test + ": " + line);
        }
    }

    void end() {
        System.out.println(test + ": " + looked + " answers looked at, " + wrong + " not as due");
        if (wrong != 0 || looked == 0) {
            System.exit(1);
        }
    }
}
