/** Counts and prints the answers that are not as due. */
final class Check {
    private static final int MOST_PRINTED = 20;
    private String sentence = "";
    private int made;
    private int wrong;

    /** The sentence of the document, or the case of it, that the next answers are due to. */
    void sentence(String words) {
        sentence = "[" + words + "] ";
    }

    void due(String what, long got, long want) {
        made++;
        if (got != want) {
            wrong++;
            if (wrong <= MOST_PRINTED) {
                System.out.println(sentence + what + " answered " + got + ", due is " + want);
            }
        }
    }

    void due(String what, boolean got, boolean want) {
        due(what, got ? 1 : 0, want ? 1 : 0);
    }

    /** Ends the program with exit code 1 if an answer was wrong, or if nothing was asked at all. */
    void finish() {
        System.out.println(made + " answers, " + wrong + " not as due");
        if (wrong != 0 || made == 0) {
            System.exit(1);
        }
    }
}
