/** Counts and prints the answers that are not the ones due. */
final class Check {
    private String sentence = "";
    private int wrong = 0;

    /** What is checked from here on belongs to this sentence of the document. */
    void about(String sentence) {
        this.sentence = sentence + ": ";
    }

    void due(String what, long got, long want) {
        if (got != want) {
            wrong++;
            System.out.println(sentence + what + " answered " + got + ", due is " + want);
        }
    }

    void due(String what, boolean got, boolean want) {
        due(what, got ? 1L : 0L, want ? 1L : 0L);
    }

    void end() {
        System.out.println(wrong == 0 ? "all answers are as due" : wrong + " answers are not as due");
        if (wrong != 0) {
            System.exit(1);
        }
    }
}
