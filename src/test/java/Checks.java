/** Counts the answers that are not as due, and tells them. */
final class Checks {
    private final String name;
    private int wrong;

    Checks(String name) {
        this.name = name;
    }

    void due(String call, long got, long want) {
        if (got != want) {
            wrong++;
            System.out.println(name + ": " + call + " answered " + got + ", due is " + want);
        }
    }

    void due(String call, boolean got, boolean want) {
        due(call, got ? 1 : 0, want ? 1 : 0);
    }

    /** What outcome(action, 0 .. 4) answers, at once. */
    void dueOutcome(String where, RunOrder x, int action, int... want) {
        for (int what = 0; what < want.length; what++) {
            due(where + ": outcome(" + action + ", " + what + ")", x.outcome(action, what), want[what]);
        }
    }

    /** All that order tells, with nothing behind it. */
    void dueOrder(String where, RunOrder x, int... want) {
        for (int i = 0; i < want.length; i++) {
            due(where + ": order(" + i + ")", x.order(i), want[i]);
        }
        due(where + ": order(" + want.length + ")", x.order(want.length), RunOrder.NONE);
    }

    void end() {
        if (wrong != 0) {
            System.out.println(name + ": " + wrong + " answers are not as due");
            System.exit(1);
        }
    }
}
