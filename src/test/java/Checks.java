/** Counts the answers of a test, prints those that are not due, and ends the test. */
final class Checks {
    private int right = 0;
    private int wrong = 0;

    void due(String what, long got, long want) {
        if (got == want) {
            right++;
        } else {
            wrong++;
            System.out.println(what + " answered " + got + ", due is " + want);
        }
    }

    void holds(String what, boolean holds) {
        due(what, holds ? 1 : 0, 1);
    }

    /** One test of several: it stands by itself, so that what it throws doesn't hide the others. */
    void part(String name, Runnable test) {
        int rightBefore = right;
        int wrongBefore = wrong;
        try {
            test.run();
        } catch (RuntimeException | StackOverflowError thrown) {
            wrong++;
            System.out.println(name + " threw " + thrown);
        }
        if (right == rightBefore && wrong == wrongBefore) {
            wrong++;
            System.out.println(name + " looked at nothing");
        }
        System.out.println((wrong == wrongBefore ? "  ok      " : "  FAILED  ") + name);
    }

    void end(String test) {
        System.out.println(test + ": " + right + " answers as due, " + wrong + " not");
        if (wrong != 0 || right == 0) {
            System.exit(1);
        }
    }
}
