/** Counts answers that are due and prints those that are not. */
final class Due {
    private final String test;
    private String promise = "";
    private int right = 0;
    private int wrong = 0;

    Due(String test) {
        this.test = test;
    }

    /** What follows is of this promise. */
    void promise(String name) {
        promise = name;
    }

    void is(String call, long got, long want) {
        if (got == want) {
            right++;
        } else {
            wrong++;
            System.out.println(test + ", " + promise + ": " + call + " answered " + got + ", due is " + want);
        }
    }

    void same(String what, String got, String want) {
        boolean alike = got.equals(want);
        isTrue(alike ? what : what + ": " + got + " for " + want, alike);
    }

    void isTrue(String what, boolean so) {
        is(what, so ? 1 : 0, 1);
    }

    /** Ends the program with code 1 if an answer was not the one due. */
    void endIfWrong() {
        if (wrong != 0) {
            end();
        }
    }

    /** Prints how it went, and ends the program with code 1 if an answer was not the one due. */
    void end() {
        System.out.println(test + ": " + right + " answers as due, " + wrong + " not");
        if (wrong != 0 || right == 0) {
            System.exit(1);
        }
    }
}
