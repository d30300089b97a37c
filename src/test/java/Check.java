/** Counts the answers that are not as due, and ends a test. */
final class Check {
    private static final int SHOWN = 40;
    private final String test;
    private int asked;
    private int wrong;

    Check(String test) {
        this.test = test;
    }

    void due(String call, long got, long want) {
        asked++;
        if (got == want) return;
        wrong++;
        if (wrong <= SHOWN) System.out.println(test + ": " + call + " answered " + got + ", due is " + want);
    }

    void holds(String what, boolean good) {
        asked++;
        if (good) return;
        wrong++;
        if (wrong <= SHOWN) System.out.println(test + ": " + what + " does not hold");
    }

    boolean isClean() {
        return wrong == 0;
    }

    void close() {
        System.out.println(test + ": " + asked + " answers asked, " + wrong + " wrong");
        if (wrong != 0) System.exit(1);
    }
}
