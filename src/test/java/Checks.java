/** Counts and prints the answers that are not the ones due. */
final class Checks {
    private int made = 0;
    private int wrong = 0;

    void due(String call, long got, long want) {
        made++;
        if (got != want) {
            wrong++;
            System.out.println(call + " answered " + got + ", due is " + want);
        }
    }

    void due(String call, boolean got, boolean want) {
        due(call, got ? 1 : 0, want ? 1 : 0);
    }

    void due(String call, String got, String want) {
        due(call + ": " + got + " where " + want + " is due,", got.equals(want), true);
    }

    int made() {
        return made;
    }

    int wrong() {
        return wrong;
    }

    /** Ends the program with exit code 1 when an answer was wrong. */
    void end() {
        System.out.println(made + " answers, " + wrong + " of them not as due");
        if (wrong != 0 || made == 0) {
            System.exit(1);
        }
    }
}
