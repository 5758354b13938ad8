/** Counts the answers of a test and prints each that is not the one that is due. */
final class Due {
    private int right = 0;
    private int wrong = 0;

    void is(String call, long got, long want) {
        if (got == want) {
            right++;
        } else {
            wrong++;
            System.out.println(call + " answered " + got + ", due is " + want);
        }
    }

    void is(String call, double got, double want) {
        if (got == want) {
            right++;
        } else {
            wrong++;
            System.out.println(call + " answered " + got + ", due is " + want);
        }
    }

    int asked() {
        return right + wrong;
    }

    void isTrue(String what, boolean holds) {
        is(what, holds ? 1L : 0L, 1L);
    }

    /** Ends the program with exit code 1 if an answer was wrong or none was asked for. */
    void close(String test) {
        System.out.println(test + ": " + right + " answers as due, " + wrong + " not");
        if (wrong != 0 || right == 0) {
            System.exit(1);
        }
    }
}
