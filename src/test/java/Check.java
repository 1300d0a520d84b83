/** Counts and prints the answers that are not due; shared by the project's tests. */
final class Check {
    private static final int MOST_PRINTED = 20;
    private static int wrong = 0;
    private static String test = "";
    private static int wrongInTest = 0;

    private Check() {
    }

    /** Runs one test; a throw counts as a wrong answer and doesn't keep the other tests from running. */
    static void test(String name, Runnable body) {
        test = name;
        wrongInTest = 0;
        try {
            body.run();
        } catch (RuntimeException | StackOverflowError thrown) {
            StackTraceElement[] trace = thrown.getStackTrace();
            report("threw " + thrown + (trace.length > 0 ? " at " + trace[0] : ""));
        }
        test = "";
        wrongInTest = 0;
    }

    static void due(String what, long got, long want) {
        if (got != want) {
            report(what + " answered " + got + ", due is " + want);
        }
    }

    static void due(String what, boolean got, boolean want) {
        if (got != want) {
            report(what + " answered " + got + ", due is " + want);
        }
    }

    // The number of lines is bounded for each test, so that one broken promise doesn't hide another.
    static void report(String line) {
        wrong++;
        wrongInTest++;
        if (wrongInTest == 1 && !test.isEmpty()) {
            System.out.println("wrong in: " + test);
        }
        if (wrongInTest <= MOST_PRINTED) {
            System.out.println("    " + line);
        }
    }

    static void end() {
        if (wrong > 0) {
            System.out.println(wrong + " wrong");
            System.exit(1);
        }
    }
}
