/** Compares answers with those that are due, and ends a test with exit code 1 if one was wrong. */
final class Check {
    private static final int MOST_LINES = 50;

    private final String test;
    private int asked;
    private int wrong;
    private String part = "";

    Check(String test) {
        this.test = test;
    }

    void part(String name) {
        part = name;
    }

    void due(String call, long got, long want) {
        asked++;
        if (got != want) {
            fail(call + " answered " + got + ", due is " + want);
        }
    }

    void due(String call, boolean got, boolean want) {
        due(call, got ? 1 : 0, want ? 1 : 0);
    }

    void holds(String what, boolean does) {
        asked++;
        if (!does) {
            fail(what);
        }
    }

    private void fail(String text) {
        wrong++;
        if (wrong <= MOST_LINES) {
            System.out.println(test + ", " + part + ": " + text);
        }
    }

    int wrong() {
        return wrong;
    }

    void end() {
        System.out.println(test + ": " + asked + " answers, " + wrong + " wrong");
        if (wrong != 0 || asked == 0) {
            System.exit(1);
        }
    }
}
