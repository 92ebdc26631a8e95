/** Counts the answers of a test, prints the wrong ones, and ends it with exit code 1 if there was one. */
final class Checks {
    private int right = 0;
    private int wrong = 0;

    void due(String call, Object got, Object want) {
        if (got.equals(want)) {
            right++;
        } else {
            wrong++;
            System.out.println(call + " answered " + got + ", due is " + want);
        }
    }

    void finish() {
        System.out.println(right + " answers as due, " + wrong + " not");
        if (wrong != 0 || right == 0) {
            System.exit(1);
        }
    }
}
