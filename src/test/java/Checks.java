/** Counts answers that are not the ones that are due, and prints them. */
final class Checks {
    private static final int PRINTED_AT_MOST = 40;

    private int made = 0;
    private int wrong = 0;

    void due(String call, long got, long want) {
        made++;
        if (got != want) {
            complain(call + " answered " + got + ", due is " + want);
        }
    }

    void holds(String what, boolean so) {
        made++;
        if (!so) {
            complain(what);
        }
    }

    private void complain(String what) {
        wrong++;
        if (wrong <= PRINTED_AT_MOST) {
            System.out.println("wrong: " + what);
        }
    }

    int wrong() {
        return wrong;
    }

    void end() {
        System.out.println(made + " answers, " + wrong + " not as due");
        if (wrong != 0 || made == 0) {
            System.exit(1);
        }
    }
}
