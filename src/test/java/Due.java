/** Counts the calls whose answer is not the one that is due, and tells of each. */
final class Due {
    private final String test;
    private int asked;
    private int wrong;

    Due(String test) {
        this.test = test;
    }

    void is(String call, long got, long want) {
        asked++;
        if (got == want) return;
        wrong++;
        System.out.println(test + ": " + call + " answered " + got + ", due is " + want);
    }

    void holds(String what, boolean holds) {
        is(what, holds ? 1 : 0, 1);
    }

    /** Ends the test: with exit code 1 if an answer was wrong. */
    void close() {
        System.out.println(test + ": " + asked + " answers looked at, " + wrong + " wrong");
        if (wrong != 0 || asked == 0) System.exit(1);
    }
}
