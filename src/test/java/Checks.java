/** Counts and prints the answers of one test that are not as due. */
final class Checks {
    private int wrong = 0;

    void due(String call, int got, int want) {
        if (got != want) {
            wrong++;
            System.out.println(call + " answered " + got + ", due is " + want);
        }
    }

    void dueText(String what, String got, String want) {
        if (!got.equals(want)) {
            wrong++;
            System.out.println(what + " is " + got + ", due is " + want);
        }
    }

    boolean clean() {
        return wrong == 0;
    }

    void finish() {
        if (wrong != 0) {
            System.exit(1);
        }
    }
}
