/** Runs the tests of one file, each under the words of the document that it holds, and prints what is not as due. */
final class Checks {
    // A broken program can fail some hundred thousand rows; the first ones of each test tell enough.
    private static final int MOST_PRINTED = 5;

    private String words = "";
    private int rows = 0;
    private int wrong = 0;
    private int wrongBefore = 0;

    void holds(String wordsOfTheDocument, Runnable test) {
        words = wordsOfTheDocument;
        int rowsBefore = rows;
        wrongBefore = wrong;
        try {
            test.run();
        } catch (RuntimeException fault) {
            tellWrong("the test ended with " + fault);
        }
        if (rows == rowsBefore) {
            tellWrong("nothing was tested");
        }
    }

    void due(Object call, int got, int want) {
        rows++;
        if (got != want) {
            tellWrong(call + " answered " + got + ", due is " + want);
        }
    }

    void dueText(Object what, String got, String want) {
        rows++;
        if (!got.equals(want)) {
            tellWrong(what + " is " + got + ", due is " + want);
        }
    }

    void dueTrue(Object what, boolean holds) {
        dueText(what, Boolean.toString(holds), "true");
    }

    boolean clean() {
        return wrong == 0;
    }

    void finish() {
        if (wrong != 0) {
            System.out.println(wrong + " of " + rows + " rows are not as due");
            System.exit(1);
        }
    }

    private void tellWrong(String what) {
        wrong++;
        if (wrong - wrongBefore <= MOST_PRINTED) {
            System.out.println((words.isEmpty() ? "" : "\"" + words + "\": ") + what);
        }
    }
}
