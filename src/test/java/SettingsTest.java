/** Promises 1 to 9: what is told to the object, its edges, and what is refused. */
public final class SettingsTest {
    private static final int LEAST = Integer.MIN_VALUE;
    private static final int MOST = Integer.MAX_VALUE;
    private static final int DONE = 1;
    private static final int FAILED = 2;
    private static final int HOPELESS = 5;
    private static final int[] NO_ACTION = {-1, 2, 23, 24, 31, 32, 33, LEAST, MOST};

    private static final Checks CHECKS = new Checks("SettingsTest");

    public static void main(String[] args) {
        newObject();
        slots();
        action();
        actionAtFirst();
        about();
        aboutLocks();
        fails();
        needs();
        needsRings();
        wish();
        mode();
        retries();
        CHECKS.end();
    }

    /** An object with two plain ACTIONS of TIME 5 and 7, both WISHED. */
    private static RunOrder withTwo(int cores) {
        RunOrder x = new RunOrder(cores, 100);
        x.action(5, 1, 10);
        x.action(7, 1, 10);
        x.wish(0, true);
        x.wish(1, true);
        return x;
    }

    private static int outcomeOfOne(int houseCores, int houseMemory, int cores, int memory) {
        RunOrder x = new RunOrder(houseCores, houseMemory);
        x.wish(x.action(1, cores, memory), true);
        x.run();
        return x.outcome(0, 0);
    }

    private static void newObject() {
        int[][] houses = {{LEAST, 1}, {-1, 1}, {0, 1}, {1, 1}, {2, 2}, {15, 15}, {16, 16}, {17, 16}, {MOST, 16}};
        for (int[] h : houses) {
            String house = "house of " + h[0] + " cores: ";
            CHECKS.due(house + "as many", outcomeOfOne(h[0], 0, h[1], 0), DONE);
            if (h[1] < 16) {
                CHECKS.due(house + "one more", outcomeOfOne(h[0], 0, h[1] + 1, 0), HOPELESS);
            }
        }
        int[][] memories = {{LEAST, 0}, {-1, 0}, {0, 0}, {1, 1}, {999999, 999999}, {1000000, 1000000},
            {1000001, 1000000}, {MOST, 1000000}};
        for (int[] m : memories) {
            String house = "house of memory " + m[0] + ": ";
            CHECKS.due(house + "as much", outcomeOfOne(1, m[0], 0, m[1]), DONE);
            if (m[1] < 1000000) {
                CHECKS.due(house + "one more", outcomeOfOne(1, m[0], 0, m[1] + 1), HOPELESS);
            }
        }
        // Two that fill the house: a house that were larger than its range would hold both at once.
        RunOrder x = new RunOrder(99, MOST);
        for (int i = 0; i < 2; i++) {
            x.wish(x.action(4, 16, 0), true);
        }
        CHECKS.due("two of 16 cores in a house of 99: run()", x.run(), 8);
        RunOrder y = new RunOrder(99, MOST);
        for (int i = 0; i < 2; i++) {
            y.wish(y.action(4, 0, 1000000), true);
        }
        CHECKS.due("two of all the memory: run()", y.run(), 8);
        RunOrder none = new RunOrder(4, 4);
        CHECKS.due("no actions: wish(0)", none.wish(0, true), false);
        CHECKS.due("no actions: rest(0)", none.rest(0), 0);
        CHECKS.due("no actions: run()", none.run(), 0);
        CHECKS.due("no actions: outcome(0, 0)", none.outcome(0, 0), -1);
        CHECKS.due("no actions: action", none.action(1, 1, 1), 0);
    }

    private static RunOrder withRacers(int n) {
        RunOrder x = new RunOrder(16, 0);
        x.mode(3, true);
        for (int i = 0; i < n; i++) {
            x.action(10, 1, 0);
            x.about(i, false, 0, 2);
            x.wish(i, true);
        }
        return x;
    }

    private static int doneFarAway(RunOrder x, int n) {
        x.run();
        int far = 0;
        for (int i = 0; i < n; i++) {
            far += x.outcome(i, 4);
        }
        return far;
    }

    private static void slots() {
        RunOrder x = withRacers(6);
        CHECKS.due("slots at first", doneFarAway(x, 6), 0);
        for (int n = 0; n <= 4; n++) {
            CHECKS.due("slots(" + n + ")", x.slots(n), true);
            CHECKS.due("far away with " + n + " slots", doneFarAway(x, 6), n);
        }
        x.slots(3);
        for (int n : new int[] {-1, 5, LEAST, MOST}) {
            CHECKS.due("slots(" + n + ")", x.slots(n), false);
            CHECKS.due("far away after slots(" + n + ")", doneFarAway(x, 6), 3);
        }
    }

    private static void action() {
        RunOrder x = new RunOrder(16, 1000000);
        int[][] wrong = {{0, 0, 0}, {-1, 0, 0}, {1001, 0, 0}, {LEAST, 0, 0}, {MOST, 0, 0},
            {1, -1, 0}, {1, 17, 0}, {1, LEAST, 0}, {1, MOST, 0},
            {1, 0, -1}, {1, 0, 1000001}, {1, 0, LEAST}, {1, 0, MOST}};
        for (int[] w : wrong) {
            CHECKS.due("action(" + w[0] + ", " + w[1] + ", " + w[2] + ")", x.action(w[0], w[1], w[2]), -1);
        }
        CHECKS.due("none was made", x.wish(0, true), false);
        CHECKS.due("action(1, 0, 0)", x.action(1, 0, 0), 0);
        CHECKS.due("action(1000, 16, 1000000)", x.action(1000, 16, 1000000), 1);
        CHECKS.due("action(0, 0, 0)", x.action(0, 0, 0), -1);
        for (int i = 2; i < 24; i++) {
            CHECKS.due("action " + i, x.action(i, 1, 1), i);
        }
        CHECKS.due("the 25th action", x.action(1, 0, 0), -1);
        CHECKS.due("wish(24)", x.wish(24, true), false);
        CHECKS.due("wish(23)", x.wish(23, true), true);
        CHECKS.due("rest(23)", x.rest(23), 23);
        x.wish(1, true);
        CHECKS.due("the 25th changed nothing", x.rest(1), 1000);
    }

    /** No TEST, no LOCKS, no failing, no FAR TIME, not WISHED. */
    private static void actionAtFirst() {
        RunOrder x = withTwo(2);
        x.slots(4);
        x.mode(3, true);
        x.mode(0, true);
        x.action(3, 0, 0);
        CHECKS.due("at first: run()", x.run(), 7);
        CHECKS.dueOrder("at first", x, 1, 0);
        CHECKS.dueOutcome("at first", x, 0, 1, 0, 5, 1, 0);
        CHECKS.dueOutcome("at first", x, 1, 1, 0, 7, 1, 0);
        CHECKS.dueOutcome("at first", x, 2, 0, -1, -1, 0, -1);
    }

    private static void about() {
        RunOrder x = withTwo(2);
        x.slots(1);
        x.mode(3, true);
        for (int a : NO_ACTION) {
            CHECKS.due("about(" + a + ")", x.about(a, true, 1, 1), false);
        }
        CHECKS.due("about(1, FAR TIME 3)", x.about(1, true, 4, 3), true);
        for (int far : new int[] {-1, 1001, LEAST, MOST}) {
            CHECKS.due("about(FAR TIME " + far + ")", x.about(1, false, 1, far), false);
        }
        x.mode(0, true);
        // The refused ones have changed nothing: 1 is a TEST still, and far away in 3.
        CHECKS.due("a TEST: run()", x.run(), 8);
        CHECKS.dueOutcome("a TEST", x, 1, 1, 5, 8, 1, 1);
        CHECKS.due("about(no TEST)", x.about(1, false, 0, 0), true);
        CHECKS.due("no TEST: run()", x.run(), 7);
        CHECKS.dueOutcome("no TEST", x, 1, 1, 0, 7, 1, 0);
        CHECKS.due("about(FAR TIME 1000)", x.about(1, false, 0, 1000), true);
        CHECKS.due("FAR TIME 1000: run()", x.run(), 7);
        CHECKS.dueOutcome("FAR TIME 1000", x, 1, 1, 0, 7, 1, 0);
    }

    private static int endWithLocks(int one, int other) {
        RunOrder x = withTwo(2);
        x.about(0, false, one, 0);
        x.about(1, false, other, 0);
        return x.run();
    }

    private static void aboutLocks() {
        for (int bit = 0; bit < 32; bit++) {
            int lock = 1 << bit;
            CHECKS.due("both with lock " + bit, endWithLocks(lock, lock), bit < 8 ? 12 : 7);
            CHECKS.due("all and lock " + bit, endWithLocks(-1, lock), bit < 8 ? 12 : 7);
            CHECKS.due("all others and lock " + bit, endWithLocks(~lock, lock), 7);
        }
        CHECKS.due("all and all", endWithLocks(LEAST | 255, -1), 12);
        CHECKS.due("none and all", endWithLocks(0, 255), 7);
    }

    private static void fails() {
        RunOrder x = withTwo(2);
        for (int a : NO_ACTION) {
            CHECKS.due("fails(" + a + ")", x.fails(a, 1, 1), false);
        }
        int[][] wrong = {{-1, 0}, {4, 0}, {LEAST, 0}, {MOST, 0}, {1, -1}, {1, 4}, {1, LEAST}, {1, MOST},
            {0, 4}, {0, -1}};
        for (int[] w : wrong) {
            CHECKS.due("fails(0, " + w[0] + ", " + w[1] + ")", x.fails(0, w[0], w[1]), false);
        }
        x.run();
        CHECKS.dueOutcome("refused fails", x, 0, 1, 0, 5, 1, 0);
        for (int kind = 0; kind < 4; kind++) {
            for (int tries = 0; tries <= 3; tries++) {
                checkFailing(tries, kind);
            }
        }
        x.fails(0, 1, 2);
        x.fails(0, 4, 3);
        x.retries(2, 1);
        x.run();
        CHECKS.dueOutcome("a refused one keeps the KIND", x, 0, 1, 0, 10, 2, 0);
        CHECKS.due("fails(0, 0, 0)", x.fails(0, 0, 0), true);
        x.run();
        CHECKS.dueOutcome("fails no more", x, 0, 1, 0, 5, 1, 0);
    }

    private static void checkFailing(int tries, int kind) {
        RunOrder x = withTwo(2);
        String where = "fails(0, " + tries + ", " + kind + ")";
        CHECKS.due(where, x.fails(0, tries, kind), true);
        for (int left = 0; left <= 3; left++) {
            // Of all other KINDS there are as many as can be: they must not count.
            for (int k = 0; k < 4; k++) {
                x.retries(k, k == kind ? left : 3);
            }
            x.run();
            int begun = Math.min(tries, left) + 1;
            boolean done = tries <= left;
            CHECKS.dueOutcome(where + " with " + left, x, 0,
                    done ? DONE : FAILED, 0, 5 * begun, begun, done ? 0 : -1);
            CHECKS.dueOutcome(where + " with " + left, x, 1, DONE, 0, 7, 1, 0);
        }
    }

    private static void needs() {
        RunOrder x = withTwo(2);
        for (int a : NO_ACTION) {
            CHECKS.due("needs(" + a + ", 0)", x.needs(a, 0), -1);
            CHECKS.due("needs(0, " + a + ")", x.needs(0, a), -1);
            CHECKS.due("needs(" + a + ", " + a + ")", x.needs(a, a), -1);
        }
        CHECKS.due("needs(0, 1)", x.needs(0, 1), 1);
        CHECKS.due("needs(0, 1) again", x.needs(0, 1), -1);
        CHECKS.due("needs: run()", x.run(), 12);
        CHECKS.dueOutcome("needs", x, 0, 1, 7, 12, 1, 0);
        CHECKS.due("rest(1)", x.rest(1), 12);
        CHECKS.due("rest(0)", x.rest(0), 5);
    }

    private static void needsRings() {
        RunOrder x = new RunOrder(1, 0);
        for (int i = 0; i < 24; i++) {
            x.action(1, 1, 0);
            CHECKS.due("needs itself", x.needs(i, i), -2);
        }
        // Two chains first, joined later: the join must be seen from both far ends.
        for (int i = 0; i < 23; i++) {
            if (i != 11) {
                CHECKS.due("needs(" + i + ", " + (i + 1) + ")", x.needs(i, i + 1), 1);
            }
        }
        CHECKS.due("a ring of one chain", x.needs(23, 12), -2);
        CHECKS.due("the join", x.needs(11, 12), 1);
        for (int from = 1; from < 24; from++) {
            for (int to = 0; to < from; to++) {
                CHECKS.due("needs(" + from + ", " + to + ")", x.needs(from, to), -2);
            }
        }
        CHECKS.due("a shorter way is no ring", x.needs(0, 23), 1);
        CHECKS.due("a shorter way again", x.needs(0, 23), -1);
        CHECKS.due("a refused ring leaves no need", x.needs(23, 0), -2);
        x.wish(23, true);
        CHECKS.due("only 23: run()", x.run(), 1);
        x.wish(0, true);
        CHECKS.due("all: run()", x.run(), 24);
        CHECKS.due("all: rest(23)", x.rest(23), 24);
    }

    private static void wish() {
        RunOrder x = withTwo(1);
        for (int a : NO_ACTION) {
            CHECKS.due("wish(" + a + ", true)", x.wish(a, true), false);
            CHECKS.due("wish(" + a + ", false)", x.wish(a, false), false);
        }
        CHECKS.due("both: run()", x.run(), 12);
        CHECKS.due("wish(0, true) again", x.wish(0, true), true);
        CHECKS.due("wish(1, false)", x.wish(1, false), true);
        CHECKS.due("wish(1, false) again", x.wish(1, false), true);
        CHECKS.due("one: run()", x.run(), 5);
        CHECKS.dueOutcome("not WISHED", x, 1, 0, -1, -1, 0, -1);
        x.needs(0, 1);
        CHECKS.due("needed: run()", x.run(), 12);
        x.wish(0, false);
        CHECKS.due("none: run()", x.run(), 0);
    }

    private static void mode() {
        RunOrder x = withTwo(1);
        for (int m : new int[] {-1, 4, 5, LEAST, MOST}) {
            CHECKS.due("mode(" + m + ", true)", x.mode(m, true), false);
            CHECKS.due("mode(" + m + ", false)", x.mode(m, false), false);
        }
        for (int m = 0; m < 4; m++) {
            CHECKS.due("mode(" + m + ", true)", x.mode(m, true), true);
            CHECKS.due("mode(" + m + ", true) again", x.mode(m, true), true);
            CHECKS.due("mode(" + m + ", false)", x.mode(m, false), true);
        }
        // One house in which each of these MODES alone shows, by the order of the begins.
        checkOrderInMode(-1, 1, 0, 2, 3);
        checkOrderInMode(0, 0, 2, 3, 1);
        checkOrderInMode(1, 1);
        checkOrderInMode(2, 1, 3, 0, 2);
        checkOrderInMode(3, 1, 0, 2, 3);
        RunOrder r = withRacers(1);
        r.slots(1);
        CHECKS.due("RACE on: run()", r.run(), 2);
        r.mode(3, false);
        CHECKS.due("RACE off: run()", r.run(), 10);
    }

    private static void checkOrderInMode(int mode, int... order) {
        RunOrder x = new RunOrder(2, 0);
        int[][] timesAndCores = {{5, 2}, {7, 1}, {4, 2}, {3, 1}};
        for (int[] t : timesAndCores) {
            x.wish(x.action(t[0], t[1], 0), true);
        }
        x.fails(1, 1, 0);
        x.about(1, true, 0, 0);
        x.mode(mode, true);
        x.run();
        CHECKS.dueOrder("MODE " + mode + " on", x, order);
        x.mode(mode, false);
        x.run();
        CHECKS.dueOrder("MODE " + mode + " off again", x, 1, 0, 2, 3);
    }

    private static void retries() {
        RunOrder x = withTwo(2);
        x.fails(0, 3, 3);
        for (int k : new int[] {-1, 4, LEAST, MOST}) {
            CHECKS.due("retries(" + k + ", 1)", x.retries(k, 1), false);
        }
        x.run();
        CHECKS.dueOutcome("retries at first", x, 0, FAILED, 0, 5, 1, -1);
        CHECKS.due("retries(3, 2)", x.retries(3, 2), true);
        for (int n : new int[] {-1, 4, LEAST, MOST}) {
            CHECKS.due("retries(3, " + n + ")", x.retries(3, n), false);
        }
        x.run();
        CHECKS.dueOutcome("retries(3, 2)", x, 0, FAILED, 0, 15, 3, -1);
        CHECKS.due("retries(3, 3)", x.retries(3, 3), true);
        x.run();
        CHECKS.dueOutcome("retries(3, 3)", x, 0, DONE, 0, 20, 4, 0);
        CHECKS.due("retries(3, 0)", x.retries(3, 0), true);
        x.run();
        CHECKS.dueOutcome("retries(3, 0)", x, 0, FAILED, 0, 5, 1, -1);
        // Each ACTION has RETRIES of its own: one does not use up another's.
        RunOrder y = withTwo(2);
        y.fails(0, 2, 1);
        y.fails(1, 2, 1);
        y.retries(1, 2);
        CHECKS.due("two with retries: run()", y.run(), 21);
        CHECKS.dueOutcome("two with retries", y, 0, DONE, 0, 15, 3, 0);
        CHECKS.dueOutcome("two with retries", y, 1, DONE, 0, 21, 3, 0);
        CHECKS.due("a second run begins anew: run()", y.run(), 21);
        CHECKS.dueOutcome("a second run", y, 0, DONE, 0, 15, 3, 0);
    }
}
