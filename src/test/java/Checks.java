/** Counts the answers of a test, prints the wrong ones, and ends it with exit code 1 if there was one. */
final class Checks {
    private int right = 0;
    private int wrong = 0;
    private String sentence = "";

    /** Carries out the test of one sentence of the document; the other sentences' tests go on though it fails. */
    void sentence(String text, Runnable test) {
        int before = right + wrong;
        sentence = text + " ~ ";
        try {
            test.run();
        } catch (RuntimeException fault) {
            wrong++;
            System.out.println(sentence + "ended with " + fault);
        }
        int answers = right + wrong - before;
        System.out.println(answers + " for: " + text);
        // A test that asked nothing has shown nothing.
        if (answers == 0) {
            wrong++;
        }
        sentence = "";
    }

    void due(String call, Object got, Object want) {
        if (got.equals(want)) {
            right++;
        } else {
            wrong++;
            System.out.println(sentence + call + " answered " + got + ", due is " + want);
        }
    }

    void finish() {
        System.out.println(right + " answers as due, " + wrong + " not");
        if (wrong != 0 || right == 0) {
            System.exit(1);
        }
    }
}
