/** Counts answers that are not the ones that are due, and prints them. */
final class Checks {
    private static final int PRINTED_AT_MOST = 40;

    private int made = 0;
    private int wrong = 0;
    private int sentences = 0;
    private int madeBefore = 0;
    private String sentence = "";

    /** What comes now is asked for by this sentence of the document. */
    void about(String next) {
        endSentence();
        sentence = next;
        sentences++;
        madeBefore = made;
    }

    /** A sentence of which nothing is asked would pass whatever the program does. */
    private void endSentence() {
        if (!sentence.isEmpty() && made == madeBefore) {
            complain("nothing is asked");
        }
    }

    void due(String call, long got, long want) {
        made++;
        if (got != want) {
            complain(call + " answered " + got + ", due is " + want);
        }
    }

    void holds(String what, boolean so) {
        made++;
        if (!so) {
            complain(what);
        }
    }

    private void complain(String what) {
        wrong++;
        if (wrong <= PRINTED_AT_MOST) {
            System.out.println("wrong: " + (sentence.isEmpty() ? "" : "[" + sentence + "] ") + what);
        }
    }

    int wrong() {
        return wrong;
    }

    void end() {
        endSentence();
        System.out.println((sentences == 0 ? "" : sentences + " sentences, ") + made + " answers, " + wrong + " not as due");
        if (wrong != 0 || made == 0) {
            System.exit(1);
        }
    }
}
