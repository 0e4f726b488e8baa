/** Counts answers that are not the ones due, prints each, and ends the test with exit code 1 if there was one. */
final class Check {
    private final String test;
    private String sentence = "";
    private int sentences = 0;
    private int lookedBefore = 0;
    private int looked = 0;
    private int wrong = 0;

    Check(String test) {
        this.test = test;
    }

    /** From here on the answers belong to this sentence of the document. */
    void says(String words) {
        closeSentence();
        sentence = words;
        sentences++;
        lookedBefore = looked;
    }

    // A sentence without an answer looked at would pass whatever the program does.
    private void closeSentence() {
        if (sentences > 0 && looked == lookedBefore) {
            report("no answer was looked at");
        }
    }

    void due(String call, long got, long want) {
        looked++;
        if (got != want) {
            report(call + " answered " + got + ", due is " + want);
        }
    }

    void due(String call, boolean got, boolean want) {
        looked++;
        if (got != want) {
            report(call + " answered " + got + ", due is " + want);
        }
    }

    /** The four answers about w in one line: L2, L, completable, next tokens as letters. */
    void word(RegApprox x, String where, String want) {
        looked++;
        String got = Given.answers(x);
        if (!got.equals(want)) {
            report(where + " answered \"" + got + "\", due is \"" + want + "\"");
        }
    }

    private void report(String line) {
        wrong++;
        if (wrong <= 20) {
            System.out.println(test + ": " + line + (sentence.isEmpty() ? "" : "  [" + sentence + "]"));
        }
    }

    void end() {
        closeSentence();
        System.out.println(test + ": " + (sentences == 0 ? "" : sentences + " sentences, ") + looked
                + " answers looked at, " + wrong + " not as due");
        if (wrong != 0 || looked == 0) {
            System.exit(1);
        }
    }
}
