/** Counts the answers of a test, prints the wrong ones, and ends it with exit code 1 if there was one. */
final class Checks {
    private int right = 0;
    private int wrong = 0;
    private String sentence = "";
    private int atItsStart = 0;

    /** Begins the test of one sentence of the document. */
    void sentence(String text) {
        endSentence();
        sentence = text;
        atItsStart = right + wrong;
    }

    void due(String call, Object got, Object want) {
        if (got.equals(want)) {
            right++;
        } else {
            wrong++;
            System.out.println(sentence + " ~ " + call + " answered " + got + ", due is " + want);
        }
    }

    void finish() {
        endSentence();
        System.out.println(right + " answers as due, " + wrong + " not");
        if (wrong != 0 || right == 0) {
            System.exit(1);
        }
    }

    private void endSentence() {
        if (sentence.isEmpty()) {
            return;
        }
        int answers = right + wrong - atItsStart;
        System.out.println(answers + " for: " + sentence);
        // A sentence that asked nothing has shown nothing.
        if (answers == 0) {
            wrong++;
        }
        sentence = "";
    }
}
