/** Promises 10 to 15: each step of a RUN, and what is told of it afterwards. */
public final class RunTest {
    private static final int LEAST = Integer.MIN_VALUE;
    private static final int MOST = Integer.MAX_VALUE;
    private static final int DONE = 1;
    private static final int FAILED = 2;
    private static final int SKIPPED = 3;
    private static final int STOPPED = 4;
    private static final int HOPELESS = 5;
    private static final int TESTS_LAST = 0;
    private static final int FAIL_FAST = 1;
    private static final int PACK = 2;
    private static final int RACE = 3;

    private static final Checks CHECKS = new Checks("RunTest");

    public static void main(String[] args) {
        nothingToRun();
        byRestThenByNumber();
        resourcesOneByOne();
        freeBeforeBegins();
        blockedWithoutPack();
        packPassesBy();
        hopeless();
        skippedAllTheWay();
        skippedNotAfterStopped();
        failFastStops();
        failFastLetsRunningOnesEnd();
        failFastAndRetriesAtOneTime();
        failFastHopeless();
        testsLast();
        testsLastWaitForRetries();
        testsLastWaitForRunningOnes();
        testsLastDeadEnd();
        raceFarFirst();
        raceHereFirstAndTies();
        raceCutFrees();
        raceSlots();
        raceSlotStaysTaken();
        raceFailing();
        raceNotWithoutRoomHere();
        retriesGoBehindGreaterRests();
        longest();
        rest();
        restOfDeepChain();
        outcomeWrong();
        outcomeStays();
        first();
        order();
        peak();
        CHECKS.end();
    }

    /** Each row a new ACTION, WISHED: TIME, CORES, MEMORY. */
    private static RunOrder house(int cores, int memory, int[]... rows) {
        RunOrder x = new RunOrder(cores, memory);
        for (int[] r : rows) {
            x.wish(x.action(r[0], r[1], r[2]), true);
        }
        return x;
    }

    private static int[] a(int time, int cores, int memory) {
        return new int[] {time, cores, memory};
    }

    private static void dueStates(String where, RunOrder x, int... states) {
        for (int i = 0; i < states.length; i++) {
            CHECKS.due(where + ": outcome(" + i + ", 0)", x.outcome(i, 0), states[i]);
        }
    }

    private static void dueBegins(String where, RunOrder x, int... begins) {
        for (int i = 0; i < begins.length; i++) {
            CHECKS.due(where + ": outcome(" + i + ", 1)", x.outcome(i, 1), begins[i]);
        }
    }

    private static void nothingToRun() {
        RunOrder x = new RunOrder(1, 1);
        CHECKS.due("no actions: run()", x.run(), 0);
        x.action(4, 1, 0);
        CHECKS.due("no wishes: run()", x.run(), 0);
        CHECKS.dueOutcome("no wishes", x, 0, 0, -1, -1, 0, -1);
        CHECKS.dueOrder("no wishes", x);
    }

    private static void byRestThenByNumber() {
        RunOrder x = house(1, 0, a(3, 1, 0), a(5, 1, 0), a(2, 1, 0), a(5, 1, 0), a(4, 1, 0));
        x.needs(4, 2);
        CHECKS.due("by rest: run()", x.run(), 19);
        CHECKS.dueOrder("by rest", x, 2, 1, 3, 4, 0);
        dueBegins("by rest", x, 16, 2, 0, 7, 12);
        x.wish(4, false);
        x.run();
        CHECKS.dueOrder("not WANTED ones add no REST", x, 1, 3, 0, 2);
    }

    private static void resourcesOneByOne() {
        RunOrder cores = house(3, 0, a(5, 2, 0), a(5, 1, 0), a(5, 1, 0));
        CHECKS.due("cores: run()", cores.run(), 10);
        dueBegins("cores", cores, 0, 0, 5);
        RunOrder memory = house(16, 10, a(5, 0, 7), a(5, 0, 3), a(5, 0, 1));
        CHECKS.due("memory: run()", memory.run(), 10);
        dueBegins("memory", memory, 0, 0, 5);
        RunOrder locks = house(16, 0, a(5, 1, 0), a(5, 1, 0), a(5, 1, 0), a(5, 1, 0));
        locks.about(0, false, 3, 0);
        locks.about(1, false, 12, 0);
        locks.about(2, false, 6, 0);
        locks.mode(PACK, true);
        CHECKS.due("locks: run()", locks.run(), 10);
        dueBegins("locks", locks, 0, 0, 5, 0);
        // The LOCK of one that began before another is taken still.
        RunOrder held = house(16, 0, a(7, 1, 0), a(6, 1, 0), a(5, 1, 0));
        held.about(0, false, 1, 0);
        held.about(1, false, 2, 0);
        held.about(2, false, 1, 0);
        CHECKS.due("locks held: run()", held.run(), 12);
        dueBegins("locks held", held, 0, 0, 7);
        RunOrder nothing = house(1, 0, a(9, 1, 0), a(4, 0, 0), a(4, 0, 0));
        CHECKS.due("takes nothing: run()", nothing.run(), 9);
        dueBegins("takes nothing", nothing, 0, 0, 0);
    }

    private static void freeBeforeBegins() {
        RunOrder x = house(2, 4, a(6, 1, 2), a(6, 1, 2), a(5, 2, 4), a(4, 2, 4));
        x.about(0, false, 1, 0);
        x.about(1, false, 2, 0);
        x.about(2, false, 3, 0);
        CHECKS.due("all free at one time: run()", x.run(), 15);
        dueBegins("all free at one time", x, 0, 0, 6, 11);
        CHECKS.due("peak(0)", x.peak(0), 2);
        CHECKS.due("peak(1)", x.peak(1), 4);
    }

    private static void blockedWithoutPack() {
        RunOrder x = house(2, 0, a(9, 1, 0), a(8, 2, 0), a(2, 1, 0), a(1, 0, 0));
        CHECKS.due("without PACK: run()", x.run(), 19);
        dueBegins("without PACK", x, 0, 9, 17, 17);
        CHECKS.dueOrder("without PACK", x, 0, 1, 2, 3);
        // Blocked by a LOCK alone, too.
        RunOrder y = house(9, 0, a(9, 1, 0), a(8, 1, 0), a(2, 1, 0));
        y.about(0, false, 128, 0);
        y.about(1, false, 128, 0);
        CHECKS.due("by a lock: run()", y.run(), 17);
        dueBegins("by a lock", y, 0, 9, 9);
        // One that is not READY yet blocks nothing, however great its REST.
        RunOrder z = house(2, 0, a(3, 1, 0), a(50, 2, 0), a(2, 1, 0));
        z.needs(1, 0);
        z.run();
        dueBegins("not READY", z, 0, 3, 0);
    }

    private static void packPassesBy() {
        RunOrder x = house(2, 0, a(9, 1, 0), a(8, 2, 0), a(2, 1, 0), a(1, 0, 0));
        x.mode(PACK, true);
        CHECKS.due("with PACK: run()", x.run(), 17);
        dueBegins("with PACK", x, 0, 9, 0, 0);
        CHECKS.dueOrder("with PACK", x, 0, 2, 3, 1);
    }

    private static void hopeless() {
        RunOrder x = house(2, 5, a(9, 3, 0), a(8, 0, 6), a(7, 2, 5), a(3, 1, 1));
        x.action(1, 16, 0);
        x.needs(3, 2);
        CHECKS.due("hopeless: run()", x.run(), 10);
        dueStates("hopeless", x, HOPELESS, HOPELESS, DONE, DONE, 0);
        CHECKS.dueOutcome("hopeless", x, 0, HOPELESS, -1, -1, 0, -1);
        CHECKS.due("hopeless: first()", x.first(), 0);
        CHECKS.dueOrder("hopeless", x, 2, 3);
        // HOPELESS at once, whatever becomes of what it NEEDS.
        x.needs(0, 2);
        x.fails(2, 1, 0);
        x.run();
        dueStates("hopeless needs a failed one", x, HOPELESS, HOPELESS, FAILED, SKIPPED, 0);
    }

    private static void skippedAllTheWay() {
        RunOrder x = house(8, 0, a(4, 1, 0), a(4, 1, 0), a(4, 1, 0), a(4, 1, 0), a(1, 9, 0), a(4, 1, 0));
        x.needs(0, 1);
        x.needs(1, 2);
        x.needs(2, 3);
        x.needs(5, 4);
        x.fails(3, 1, 0);
        CHECKS.due("skipped: run()", x.run(), 4);
        dueStates("skipped", x, SKIPPED, SKIPPED, SKIPPED, FAILED, HOPELESS, SKIPPED);
        CHECKS.dueOutcome("skipped", x, 0, SKIPPED, -1, -1, 0, -1);
        CHECKS.due("skipped: first()", x.first(), 3);
        // One bad of many needed ones is enough, though another has not ended.
        RunOrder y = house(8, 0, a(3, 1, 0), a(9, 1, 0), a(2, 1, 0));
        y.needs(2, 0);
        y.needs(2, 1);
        y.fails(0, 3, 3);
        CHECKS.due("one bad of two: run()", y.run(), 9);
        dueStates("one bad of two", y, FAILED, DONE, SKIPPED);
        checkSkippedChain();
    }

    private static void checkSkippedChain() {
        RunOrder x = new RunOrder(1, 0);
        for (int i = 0; i < 24; i++) {
            x.action(1, 1, 0);
        }
        for (int i = 0; i < 23; i++) {
            x.needs(i, i + 1);
        }
        x.wish(0, true);
        x.fails(23, 1, 0);
        CHECKS.due("a chain skipped: run()", x.run(), 1);
        for (int i = 0; i < 23; i++) {
            CHECKS.due("a chain skipped: " + i, x.outcome(i, 0), SKIPPED);
        }
    }

    private static void skippedNotAfterStopped() {
        // 1 NEEDS the failed 0 and is SKIPPED; 2 is STOPPED, and so is 3 that NEEDS it.
        RunOrder x = house(1, 0, a(9, 1, 0), a(1, 1, 0), a(2, 1, 0), a(1, 1, 0));
        x.needs(1, 0);
        x.needs(3, 2);
        x.fails(0, 1, 0);
        x.mode(FAIL_FAST, true);
        CHECKS.due("skipped first: run()", x.run(), 9);
        dueStates("skipped first", x, FAILED, SKIPPED, STOPPED, STOPPED);
        CHECKS.dueOutcome("stopped", x, 2, STOPPED, -1, -1, 0, -1);
    }

    private static void failFastStops() {
        RunOrder x = house(1, 0, a(3, 1, 0), a(2, 1, 0), a(1, 1, 0));
        x.fails(1, 1, 0);
        CHECKS.due("goes on: run()", x.run(), 6);
        dueStates("goes on", x, DONE, FAILED, DONE);
        x.mode(FAIL_FAST, true);
        CHECKS.due("fail fast: run()", x.run(), 5);
        dueStates("fail fast", x, DONE, FAILED, STOPPED);
        // A TRY that fails and has RETRIES is no failure yet.
        x.retries(0, 1);
        CHECKS.due("fail fast, tried again: run()", x.run(), 8);
        dueStates("fail fast, tried again", x, DONE, DONE, DONE);
    }

    private static void failFastLetsRunningOnesEnd() {
        RunOrder x = house(3, 0, a(4, 1, 0), a(9, 1, 0), a(6, 1, 0), a(2, 1, 0));
        x.fails(0, 1, 0);
        x.fails(2, 1, 1);
        x.retries(1, 3);
        x.mode(FAIL_FAST, true);
        CHECKS.due("running ones go on: run()", x.run(), 9);
        dueStates("running ones go on", x, FAILED, DONE, FAILED, STOPPED);
        CHECKS.dueOutcome("no try again", x, 2, FAILED, 0, 6, 1, -1);
        x.mode(FAIL_FAST, false);
        x.run();
        dueStates("without FAIL FAST", x, FAILED, DONE, DONE, DONE);
    }

    private static void failFastAndRetriesAtOneTime() {
        // 1 is FAILED before 2 is looked at, but after 0 was.
        RunOrder x = house(3, 0, a(4, 1, 0), a(4, 1, 0), a(4, 1, 0));
        for (int i = 0; i < 3; i++) {
            x.fails(i, 1, i == 1 ? 0 : 1);
        }
        x.retries(1, 1);
        x.mode(FAIL_FAST, true);
        CHECKS.due("three fail at once: run()", x.run(), 4);
        CHECKS.dueOutcome("three fail at once", x, 0, STOPPED, 0, 4, 1, -1);
        CHECKS.dueOutcome("three fail at once", x, 1, FAILED, 0, 4, 1, -1);
        CHECKS.dueOutcome("three fail at once", x, 2, FAILED, 0, 4, 1, -1);
        CHECKS.due("three fail at once: first()", x.first(), 1);
        x.mode(FAIL_FAST, false);
        CHECKS.due("not fast: run()", x.run(), 8);
        dueStates("not fast", x, DONE, FAILED, DONE);
    }

    private static void failFastHopeless() {
        RunOrder x = house(1, 0, a(3, 1, 0), a(2, 2, 0), a(1, 1, 0));
        x.needs(2, 1);
        x.mode(FAIL_FAST, true);
        CHECKS.due("hopeless and fast: run()", x.run(), 0);
        dueStates("hopeless and fast", x, STOPPED, HOPELESS, SKIPPED);
        CHECKS.due("hopeless and fast: peak(0)", x.peak(0), 0);
        CHECKS.dueOrder("hopeless and fast", x);
        x.wish(1, false);
        x.wish(2, false);
        CHECKS.due("not WANTED ones are not HOPELESS: run()", x.run(), 3);
        dueStates("not WANTED ones are not HOPELESS", x, DONE, 0, 0);
    }

    private static void testsLast() {
        RunOrder x = house(4, 0, a(9, 1, 0), a(3, 1, 0), a(2, 1, 0), a(1, 1, 0));
        x.action(7, 1, 0);
        x.about(0, true, 0, 0);
        x.about(3, true, 0, 0);
        x.needs(2, 1);
        CHECKS.due("tests not last: run()", x.run(), 9);
        dueBegins("tests not last", x, 0, 0, 3, 0);
        x.mode(TESTS_LAST, true);
        CHECKS.due("tests last: run()", x.run(), 14);
        dueBegins("tests last", x, 5, 0, 3, 5);
        CHECKS.dueOrder("tests last", x, 1, 2, 0, 3);
        // Those that are FAILED, SKIPPED or HOPELESS hold up no TEST.
        x.fails(1, 1, 0);
        x.wish(x.action(1, 5, 0), true);
        CHECKS.due("tests after failures: run()", x.run(), 12);
        dueBegins("tests after failures", x, 3, 0, -1, 3, -1, -1);
        dueStates("tests after failures", x, DONE, FAILED, SKIPPED, DONE, 0, HOPELESS);
    }

    private static void testsLastWaitForRetries() {
        RunOrder x = house(4, 0, a(9, 1, 0), a(3, 1, 0));
        x.about(0, true, 0, 0);
        x.fails(1, 2, 3);
        x.retries(3, 2);
        x.mode(TESTS_LAST, true);
        CHECKS.due("tests after retries: run()", x.run(), 18);
        dueBegins("tests after retries", x, 9, 0);
    }

    private static void testsLastWaitForRunningOnes() {
        // At 3 nothing but TESTS WAITS, but 2 runs until 7.
        RunOrder x = house(4, 0, a(9, 1, 0), a(3, 1, 0), a(7, 1, 0));
        x.about(0, true, 0, 0);
        x.mode(TESTS_LAST, true);
        CHECKS.due("tests after running ones: run()", x.run(), 16);
        dueBegins("tests after running ones", x, 7, 0, 0);
    }

    private static void testsLastDeadEnd() {
        // 1 is no TEST and NEEDS one, so neither is ever READY.
        RunOrder x = house(4, 0, a(9, 1, 0), a(3, 1, 0), a(2, 1, 0));
        x.about(0, true, 0, 0);
        x.needs(1, 0);
        x.mode(TESTS_LAST, true);
        CHECKS.due("dead end: run()", x.run(), 2);
        dueStates("dead end", x, STOPPED, STOPPED, DONE);
        CHECKS.due("dead end: first()", x.first(), -1);
        x.mode(TESTS_LAST, false);
        CHECKS.due("no dead end: run()", x.run(), 12);
        dueStates("no dead end", x, DONE, DONE, DONE);
    }

    private static RunOrder racing(int cores, int slots, int[]... rows) {
        RunOrder x = house(cores, 100, rows);
        x.slots(slots);
        x.mode(RACE, true);
        return x;
    }

    private static void raceFarFirst() {
        RunOrder x = racing(1, 1, a(9, 1, 4), a(5, 1, 4));
        x.about(0, false, 0, 3);
        CHECKS.due("far first: run()", x.run(), 8);
        CHECKS.dueOutcome("far first", x, 0, DONE, 0, 3, 1, 1);
        CHECKS.dueOutcome("far first", x, 1, DONE, 3, 8, 1, 0);
        CHECKS.dueOrder("far begins are not told", x, 0, 1);
    }

    private static void raceHereFirstAndTies() {
        RunOrder x = racing(1, 1, a(4, 1, 0));
        x.about(0, false, 0, 5);
        CHECKS.due("here first: run()", x.run(), 4);
        CHECKS.dueOutcome("here first", x, 0, DONE, 0, 4, 1, 0);
        x.about(0, false, 0, 4);
        CHECKS.due("both at once: run()", x.run(), 4);
        CHECKS.dueOutcome("both at once", x, 0, DONE, 0, 4, 1, 0);
        x.about(0, false, 0, 3);
        CHECKS.due("far first by 1: run()", x.run(), 3);
        CHECKS.dueOutcome("far first by 1", x, 0, DONE, 0, 3, 1, 1);
        x.about(0, false, 0, 0);
        CHECKS.due("no FAR TIME: run()", x.run(), 4);
        CHECKS.dueOutcome("no FAR TIME", x, 0, DONE, 0, 4, 1, 0);
    }

    private static void raceCutFrees() {
        // Far away ends at 2: CORES, MEMORY and LOCKS here are free for 1 then.
        RunOrder x = racing(2, 1, a(9, 2, 100), a(5, 2, 100), a(1, 0, 0));
        x.about(0, false, 255, 2);
        x.about(1, false, 255, 0);
        CHECKS.due("the cut frees: run()", x.run(), 7);
        dueBegins("the cut frees", x, 0, 2, 2);
        // Here ends at 3: the SLOT is free for 1 then.
        RunOrder y = racing(1, 1, a(3, 1, 0), a(3, 1, 0));
        y.needs(1, 0);
        y.about(0, false, 0, 1000);
        y.about(1, false, 0, 1);
        CHECKS.due("the cut frees the SLOT: run()", y.run(), 4);
        CHECKS.dueOutcome("the cut frees the SLOT", y, 1, DONE, 3, 4, 1, 1);
    }

    private static void raceSlots() {
        // By REST 2, 0, 1: the two SLOTS go to 2 and 0; 2 ends at 1 and 3 gets its SLOT.
        RunOrder x = racing(3, 2, a(20, 1, 0), a(19, 1, 0), a(30, 1, 0), a(10, 1, 0));
        x.about(0, false, 0, 8);
        x.about(1, false, 0, 1);
        x.about(2, false, 0, 1);
        x.about(3, false, 0, 4);
        CHECKS.due("slots: run()", x.run(), 19);
        CHECKS.dueOutcome("slots", x, 0, DONE, 0, 8, 1, 1);
        CHECKS.dueOutcome("slots", x, 1, DONE, 0, 19, 1, 0);
        CHECKS.dueOutcome("slots", x, 2, DONE, 0, 1, 1, 1);
        CHECKS.dueOutcome("slots", x, 3, DONE, 1, 5, 1, 1);
        CHECKS.due("slots again: run()", x.run(), 19);
    }

    private static void raceSlotStaysTaken() {
        // 1 ends without ever having had a SLOT, so none is free for 2 at 2.
        RunOrder x = racing(2, 1, a(20, 1, 0), a(2, 1, 0), a(9, 1, 0));
        x.about(0, false, 0, 15);
        x.about(2, false, 0, 1);
        x.needs(2, 1);
        CHECKS.due("no SLOT given back: run()", x.run(), 15);
        CHECKS.dueOutcome("no SLOT given back", x, 0, DONE, 0, 15, 1, 1);
        CHECKS.dueOutcome("no SLOT given back", x, 2, DONE, 2, 11, 1, 0);
    }

    private static void raceFailing() {
        RunOrder x = racing(1, 1, a(7, 1, 0));
        x.about(0, false, 0, 2);
        x.fails(0, 2, 1);
        CHECKS.due("far away fails: run()", x.run(), 2);
        CHECKS.dueOutcome("far away fails", x, 0, FAILED, 0, 2, 1, -1);
        x.retries(1, 2);
        CHECKS.due("far away again: run()", x.run(), 6);
        CHECKS.dueOutcome("far away again", x, 0, DONE, 0, 6, 3, 1);
        CHECKS.dueOrder("far away again", x, 0, 0, 0);
    }

    private static void raceNotWithoutRoomHere() {
        RunOrder x = racing(1, 4, a(9, 1, 0), a(8, 1, 0));
        x.about(1, false, 0, 1);
        CHECKS.due("no room here: run()", x.run(), 10);
        CHECKS.dueOutcome("no room here", x, 1, DONE, 9, 10, 1, 1);
        RunOrder y = racing(1, 4, a(9, 2, 0));
        y.about(0, false, 0, 1);
        CHECKS.due("hopeless here: run()", y.run(), 0);
        CHECKS.due("hopeless here", y.outcome(0, 0), HOPELESS);
    }

    private static void retriesGoBehindGreaterRests() {
        RunOrder x = house(1, 0, a(5, 1, 0), a(4, 1, 0), a(6, 1, 0));
        x.fails(0, 1, 0);
        x.retries(0, 1);
        x.needs(2, 1);
        CHECKS.due("retries in order: run()", x.run(), 20);
        CHECKS.dueOrder("retries in order", x, 1, 2, 0, 0);
        x.fails(1, 1, 0);
        x.run();
        CHECKS.dueOrder("retries of the foremost", x, 1, 1, 2, 0, 0);
        CHECKS.dueOutcome("retries of the foremost", x, 1, DONE, 0, 8, 2, 0);
    }

    /** The most TRIES and the greatest time that there can be. */
    private static void longest() {
        RunOrder x = new RunOrder(1, 0);
        for (int k = 0; k < 4; k++) {
            x.retries(k, 3);
        }
        for (int i = 0; i < 24; i++) {
            x.wish(x.action(1000, 1, 0), true);
            x.fails(i, 3, i % 4);
        }
        CHECKS.due("longest: run()", x.run(), 96000);
        for (int i = 0; i < 96; i++) {
            CHECKS.due("longest: order(" + i + ")", x.order(i), i / 4);
        }
        CHECKS.due("longest: order(96)", x.order(96), -1);
        CHECKS.dueOutcome("longest", x, 23, DONE, 92000, 96000, 4, 0);
        CHECKS.due("longest: first()", x.first(), -1);
        CHECKS.due("longest again: run()", x.run(), 96000);
    }

    private static void rest() {
        RunOrder x = new RunOrder(1, 0);
        int[] times = {3, 5, 2, 4, 10};
        for (int t : times) {
            x.action(t, 1, 0);
        }
        for (int i : new int[] {-1, 0, 5, 24, 32, LEAST, MOST}) {
            CHECKS.due("not WANTED: rest(" + i + ")", x.rest(i), 0);
        }
        x.needs(1, 0);
        x.needs(2, 0);
        x.needs(3, 2);
        x.needs(4, 0);
        x.wish(1, true);
        x.wish(3, true);
        int[] rests = {9, 5, 6, 4, 0};
        for (int i = 0; i < 5; i++) {
            CHECKS.due("rest(" + i + ")", x.rest(i), rests[i]);
        }
        CHECKS.due("rest(5)", x.rest(5), 0);
        x.run();
        x.wish(4, true);
        CHECKS.due("as by now: rest(0)", x.rest(0), 13);
        CHECKS.due("as by now: rest(4)", x.rest(4), 10);
        x.wish(1, false);
        x.wish(3, false);
        CHECKS.due("as by now: rest(2)", x.rest(2), 0);
        x.wish(4, false);
        CHECKS.due("none WISHED: rest(0)", x.rest(0), 0);
        x.wish(0, true);
        CHECKS.due("WISHED alone: rest(0)", x.rest(0), 3);
    }

    private static void restOfDeepChain() {
        RunOrder up = new RunOrder(1, 0);
        RunOrder down = new RunOrder(1, 0);
        for (int i = 0; i < 24; i++) {
            up.action(1000, 1, 0);
            down.action(1000, 1, 0);
        }
        for (int i = 0; i < 23; i++) {
            up.needs(i + 1, i);
            down.needs(i, i + 1);
        }
        up.wish(23, true);
        down.wish(0, true);
        for (int i = 0; i < 24; i++) {
            CHECKS.due("up: rest(" + i + ")", up.rest(i), 1000 * (24 - i));
            CHECKS.due("down: rest(" + i + ")", down.rest(i), 1000 * (i + 1));
        }
    }

    private static void outcomeWrong() {
        RunOrder x = house(1, 0, a(3, 1, 0));
        for (int what = -1; what <= 5; what++) {
            CHECKS.due("no run: outcome(0, " + what + ")", x.outcome(0, what), -1);
        }
        x.run();
        for (int what : new int[] {-1, 5, 6, LEAST, MOST}) {
            CHECKS.due("outcome(0, " + what + ")", x.outcome(0, what), -1);
        }
        for (int action : new int[] {-1, 1, 24, 32, LEAST, MOST}) {
            for (int what = 0; what < 5; what++) {
                CHECKS.due("outcome(" + action + ", " + what + ")", x.outcome(action, what), -1);
            }
        }
        x.action(2, 1, 0);
        CHECKS.dueOutcome("made after the run", x, 1, 0, -1, -1, 0, -1);
    }

    private static void outcomeStays() {
        RunOrder x = house(1, 0, a(3, 1, 0), a(2, 1, 0));
        x.fails(1, 1, 0);
        x.run();
        x.wish(0, false);
        x.fails(1, 0, 0);
        x.about(1, true, 9, 9);
        x.needs(0, 1);
        x.retries(0, 3);
        x.mode(RACE, true);
        x.slots(2);
        x.action(9, 1, 0);
        x.rest(1);
        CHECKS.dueOutcome("by the latest run", x, 0, DONE, 0, 3, 1, 0);
        CHECKS.dueOutcome("by the latest run", x, 1, FAILED, 3, 5, 1, -1);
        CHECKS.due("by the latest run: first()", x.first(), 1);
        CHECKS.dueOrder("by the latest run", x, 0, 1);
        CHECKS.due("by the latest run: peak(0)", x.peak(0), 1);
        x.run();
        CHECKS.dueOutcome("run anew", x, 0, 0, -1, -1, 0, -1);
        CHECKS.dueOutcome("run anew", x, 1, DONE, 0, 2, 1, 0);
        CHECKS.due("run anew: first()", x.first(), -1);
        CHECKS.dueOrder("run anew", x, 1);
    }

    private static void first() {
        RunOrder x = house(2, 0, a(1, 1, 0), a(9, 1, 0), a(3, 1, 0), a(1, 3, 0));
        CHECKS.due("no run: first()", x.first(), -1);
        x.run();
        CHECKS.due("hopeless: first()", x.first(), 3);
        // In the order of ACTIONS, not of time: 2 is FAILED at 3, 1 at 9.
        x.fails(1, 1, 0);
        x.fails(2, 1, 0);
        x.run();
        CHECKS.due("two failed: first()", x.first(), 1);
        x.wish(3, false);
        x.fails(1, 0, 0);
        x.fails(2, 0, 0);
        x.run();
        CHECKS.due("none failed: first()", x.first(), -1);
        x.fails(2, 1, 0);
        x.needs(0, 2);
        x.run();
        CHECKS.due("skipped is not failed: first()", x.first(), 2);
    }

    private static void order() {
        RunOrder x = house(3, 0, a(2, 1, 0), a(4, 1, 0), a(9, 1, 0), a(3, 1, 0));
        x.fails(1, 1, 0);
        x.retries(0, 1);
        CHECKS.dueOrder("no run", x);
        x.run();
        CHECKS.dueOrder("in order", x, 2, 1, 3, 0, 1);
        for (int i : new int[] {-1, 5, 95, 96, 97, LEAST, MOST}) {
            CHECKS.due("order(" + i + ")", x.order(i), -1);
        }
        x.wish(2, false);
        x.fails(1, 0, 0);
        x.run();
        CHECKS.dueOrder("a shorter run", x, 1, 3, 0);
    }

    private static void peak() {
        RunOrder x = house(8, 100, a(5, 3, 10), a(5, 1, 60), a(2, 4, 0));
        CHECKS.due("no run: peak(0)", x.peak(0), 0);
        CHECKS.due("no run: peak(1)", x.peak(1), 0);
        x.run();
        CHECKS.due("peak(0)", x.peak(0), 8);
        CHECKS.due("peak(1)", x.peak(1), 70);
        for (int what : new int[] {-1, 2, 3, LEAST, MOST}) {
            CHECKS.due("peak(" + what + ")", x.peak(what), 0);
        }
        // The most CORES and the most MEMORY at different times, neither at the end.
        RunOrder y = house(8, 100, a(5, 7, 10), a(4, 1, 90), a(3, 1, 1));
        y.needs(1, 0);
        y.needs(2, 1);
        y.run();
        CHECKS.due("at different times: peak(0)", y.peak(0), 7);
        CHECKS.due("at different times: peak(1)", y.peak(1), 90);
        y.wish(1, false);
        y.wish(2, false);
        y.run();
        CHECKS.due("of the latest run: peak(1)", y.peak(1), 10);
        y.wish(0, false);
        y.run();
        CHECKS.due("nothing ran: peak(0)", y.peak(0), 0);
        CHECKS.due("nothing ran: peak(1)", y.peak(1), 0);
        RunOrder all = house(16, 1000000, a(1, 16, 1000000));
        all.run();
        CHECKS.due("all: peak(0)", all.peak(0), 16);
        CHECKS.due("all: peak(1)", all.peak(1), 1000000);
    }
}
