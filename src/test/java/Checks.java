/** Counts answers that are due, prints those that are not, and ends a test. */
final class Checks {
    private static final int MOST_PRINTED = 20;

    private final String test;
    private int asDue = 0;
    private int wrong = 0;

    Checks(String test) {
        this.test = test;
    }

    void due(String call, long got, long want) {
        if (got == want) {
            asDue++;
            return;
        }
        wrong++;
        if (wrong <= MOST_PRINTED) {
            System.out.println(test + ": " + call + " answered " + got + ", due is " + want);
        }
    }

    void holds(String what, boolean is) {
        due(what, is ? 1 : 0, 1);
    }

    boolean hasWrong() {
        return wrong > 0;
    }

    void end() {
        System.out.println(test + ": " + asDue + " as due, " + wrong + " not as due");
        if (wrong > 0) {
            System.exit(1);
        }
    }
}
