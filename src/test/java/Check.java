/** Counts what was checked in a test and tells what was not as due. */
final class Check {
    private final String test;
    private int passed;
    private int failed;

    Check(String test) {
        this.test = test;
    }

    void due(String what, long got, long want) {
        if (got == want) {
            passed++;
            return;
        }
        failed++;
        // A fault that shows everywhere need not fill the screen.
        if (failed <= 40) {
            System.out.println(test + ": " + what + " answered " + got + ", due is " + want);
        }
    }

    void holds(String what, boolean truth) {
        due(what, truth ? 1 : 0, 1);
    }

    int failures() {
        return failed;
    }

    void close() {
        System.out.println(test + ": " + passed + " passed, " + failed + " failed");
        if (failed != 0 || passed == 0) {
            System.exit(1);
        }
    }
}
