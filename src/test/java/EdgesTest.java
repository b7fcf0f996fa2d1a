/**
 * Edges that the document names and that no single promise's test reaches: the empty and the
 * full object, the last of the 512 calls, ends that meet at one time, the SLOTS' own rules.
 */
public final class EdgesTest {
    private static final int LEAST = Integer.MIN_VALUE;
    private static final int MOST = Integer.MAX_VALUE;
    private static final int NONE = -1;
    private static final int DONE = 1;
    private static final int FAILED = 2;
    private static final int SKIPPED = 3;
    private static final int STOPPED = 4;
    private static final int HOPELESS = 5;
    private static final int TESTS_LAST = 0;
    private static final int FAIL_FAST = 1;
    private static final int PACK = 2;
    private static final int RACE = 3;
    private static final int[] NO_ACTION_OF_24 = {LEAST, -1, 24, 25, 31, 32, 55, 56, MOST};

    private static final Checks CHECKS = new Checks("EdgesTest");

    public static void main(String[] args) {
        empty();
        full();
        fullOfTests();
        lastCallOfAll();
        houseAtItsEdges();
        farTimeAtItsEdges();
        noFarTimeTakesNoSlot();
        slotOnlyWithRace();
        triesAgainAskForASlotAnew();
        bothSidesAtOneTime();
        farAwayTakesNothingHere();
        freedAtOneTimeByManySides();
        lastOneEndedFarAway();
        wantedByTwoWays();
        restByLaterNeeds();
        endsByNumbersNotByRest();
        failedBeforeAndAtOneTime();
        skippedBeforeStopped();
        hopelessNeededOnes();
        testsAmongThemselves();
        testsLastWithDeadEndBehindTries();
        blockedByMemoryAlone();
        packAsksEachAnew();
        nothingBeginsAfterARun();
        toldOfTriesThatFailed();
        CHECKS.end();
    }

    /** Each row a new ACTION, WISHED: TIME, CORES, MEMORY. */
    private static RunOrder house(int cores, int memory, int[]... rows) {
        RunOrder x = new RunOrder(cores, memory);
        for (int[] r : rows) {
            x.wish(x.action(r[0], r[1], r[2]), true);
        }
        return x;
    }

    private static RunOrder racing(int cores, int slots, int[]... rows) {
        RunOrder x = house(cores, 100, rows);
        x.slots(slots);
        x.mode(RACE, true);
        return x;
    }

    private static int[] a(int time, int cores, int memory) {
        return new int[] {time, cores, memory};
    }

    private static void dueStates(String where, RunOrder x, int... states) {
        for (int i = 0; i < states.length; i++) {
            CHECKS.due(where + ": outcome(" + i + ", 0)", x.outcome(i, 0), states[i]);
        }
    }

    private static void dueBegins(String where, RunOrder x, int... begins) {
        for (int i = 0; i < begins.length; i++) {
            CHECKS.due(where + ": outcome(" + i + ", 1)", x.outcome(i, 1), begins[i]);
        }
    }

    /** No ACTION of this number: what every call of the face says to it. */
    private static void dueNoAction(String where, RunOrder x, int a, int there) {
        String call = where + ", " + a + ": ";
        CHECKS.due(call + "about", x.about(a, true, 1, 1), false);
        CHECKS.due(call + "fails", x.fails(a, 1, 1), false);
        CHECKS.due(call + "needs", x.needs(a, there), NONE);
        CHECKS.due(call + "needed", x.needs(there, a), NONE);
        CHECKS.due(call + "needs itself", x.needs(a, a), NONE);
        CHECKS.due(call + "wish", x.wish(a, true), false);
        CHECKS.due(call + "rest", x.rest(a), 0);
        for (int what = -1; what <= 5; what++) {
            CHECKS.due(call + "outcome " + what, x.outcome(a, what), NONE);
        }
    }

    /** Promise 1, "no actions"; all that is told of no RUN, and of a RUN of nothing. */
    private static void empty() {
        RunOrder x = new RunOrder(1, 0);
        for (int round = 0; round < 2; round++) {
            String where = round == 0 ? "empty" : "empty, after a run";
            for (int a : new int[] {LEAST, -1, 0, 1, 24, MOST}) {
                dueNoAction(where, x, a, 0);
            }
            CHECKS.due(where + ": first()", x.first(), NONE);
            CHECKS.due(where + ": order(0)", x.order(0), NONE);
            CHECKS.due(where + ": order(-1)", x.order(-1), NONE);
            for (int what = -1; what <= 2; what++) {
                CHECKS.due(where + ": peak(" + what + ")", x.peak(what), 0);
            }
            CHECKS.due(where + ": run()", x.run(), 0);
        }
        CHECKS.due("empty: the first action", x.action(1, 0, 0), 0);
    }

    /** "ACTIONS, at most 24, numbered from 0": 23 is one like the others, 24 never is. */
    private static void full() {
        RunOrder x = new RunOrder(16, 24);
        for (int i = 0; i < 24; i++) {
            CHECKS.due("full: action", x.action(1 + i, 0, 1), i);
        }
        CHECKS.due("full: one more", x.action(5, 1, 1), NONE);
        CHECKS.due("full: one more, not as told", x.action(0, 1, 1), NONE);
        for (int a : NO_ACTION_OF_24) {
            dueNoAction("full", x, a, 23);
        }
        CHECKS.due("full: wish(23)", x.wish(23, true), true);
        CHECKS.due("full: about(23)", x.about(23, true, 1, 7), true);
        CHECKS.due("full: fails(23)", x.fails(23, 1, 3), true);
        CHECKS.due("full: needs(23, 22)", x.needs(23, 22), 1);
        CHECKS.due("full: needs(0, 23)", x.needs(0, 23), 1);
        CHECKS.due("full: needs(22, 0)", x.needs(22, 0), -2);
        CHECKS.due("full: rest(23)", x.rest(23), 24);
        CHECKS.due("full: rest(22)", x.rest(22), 47);
        CHECKS.due("full: rest(0)", x.rest(0), 0);
        CHECKS.due("full: run()", x.run(), 47);
        CHECKS.dueOutcome("full", x, 23, FAILED, 23, 47, 1, NONE);
        CHECKS.dueOutcome("full", x, 22, DONE, 0, 23, 1, 0);
        CHECKS.due("full: first()", x.first(), 23);
        CHECKS.dueOrder("full", x, 22, 23);
        CHECKS.due("full: peak(1)", x.peak(1), 1);
        CHECKS.due("full: still one too many", x.action(5, 1, 1), NONE);
        // All are WANTED now, and there was a RUN: numbers beyond must not be taken for one of these.
        for (int i = 0; i < 24; i++) {
            x.wish(i, true);
        }
        for (int a : NO_ACTION_OF_24) {
            dueNoAction("full, all WANTED", x, a, 23);
        }
    }

    /** All 24 of one sort: each look at "no ACTION that is no TEST" goes through every one. */
    private static void fullOfTests() {
        RunOrder x = new RunOrder(1, 0);
        for (int i = 0; i < 24; i++) {
            x.wish(x.action(2, 1, 0), true);
            x.about(i, true, 0, 0);
        }
        x.mode(TESTS_LAST, true);
        CHECKS.due("24 tests: run()", x.run(), 48);
        dueBegins("24 tests", x, 0, 2, 4, 6);
        x.about(23, false, 0, 0);
        CHECKS.due("23 tests: run()", x.run(), 48);
        CHECKS.due("23 tests: the other one is first", x.order(0), 23);
        CHECKS.due("23 tests: then by numbers", x.order(1), 0);
        CHECKS.due("23 tests: the last test", x.order(23), 22);
    }

    /** "at most 512 calls after it has been made": the 512th answers as the first did. */
    private static void lastCallOfAll() {
        RunOrder x = new RunOrder(16, 1000000);
        int calls = 0;
        for (int i = 0; i < 24; i++, calls += 3) {
            x.action(1000, 1, 1000000 / 24);
            x.wish(i, true);
            x.fails(i, 3, 3);
        }
        x.retries(3, 3);
        for (calls++; calls < 511; calls++) {
            CHECKS.due("call " + (calls + 1) + ": run()", x.run(), 8000);
        }
        CHECKS.due("the 512th call: outcome(23, 3)", x.outcome(23, 3), 4);
    }

    /** "what is beyond the range: the nearest that isn't", seen by what runs at once. */
    private static void houseAtItsEdges() {
        int[] cores = {LEAST, 0, 1, 16, 17, MOST};
        int[] mostCores = {1, 1, 1, 16, 16, 16};
        int[] memory = {LEAST, -1, 0, 1000000, 1000001, MOST};
        int[] mostMemory = {0, 0, 0, 1000000, 1000000, 1000000};
        for (int i = 0; i < cores.length; i++) {
            RunOrder x = new RunOrder(cores[i], memory[i]);
            x.mode(PACK, true);
            for (int k = 0; k < 24; k++) {
                x.wish(k < 18 ? x.action(1, 1, 0) : x.action(1, 0, 250000), true);
            }
            x.run();
            CHECKS.due("cores " + cores[i] + ": peak(0)", x.peak(0), mostCores[i]);
            CHECKS.due("memory " + memory[i] + ": peak(1)", x.peak(1), mostMemory[i]);
        }
    }

    /** "FAR TIME isn't 0 .. 1000", and "0: they don't run far away". */
    private static void farTimeAtItsEdges() {
        RunOrder x = racing(1, 1, a(1000, 1, 0));
        int[] far = {0, 1, 999, 1000};
        int[] end = {1000, 1, 999, 1000};
        int[] side = {0, 1, 1, 0};
        for (int i = 0; i < far.length; i++) {
            CHECKS.due("about FAR TIME " + far[i], x.about(0, false, 0, far[i]), true);
            CHECKS.due("FAR TIME " + far[i] + ": run()", x.run(), end[i]);
            CHECKS.dueOutcome("FAR TIME " + far[i], x, 0, DONE, 0, end[i], 1, side[i]);
        }
    }

    /** "one that begins here and has a FAR TIME begins far away, too, if a SLOT is free". */
    private static void noFarTimeTakesNoSlot() {
        RunOrder x = racing(3, 1, a(9, 1, 0), a(8, 1, 0), a(7, 1, 0));
        x.about(1, false, 0, 2);
        x.about(2, false, 0, 1);
        CHECKS.due("one without FAR TIME: run()", x.run(), 9);
        CHECKS.dueOutcome("one without FAR TIME", x, 0, DONE, 0, 9, 1, 0);
        CHECKS.dueOutcome("the one SLOT", x, 1, DONE, 0, 2, 1, 1);
        // Its SLOT is free from 2 on, but 2 has begun: no TRY goes far away later.
        CHECKS.dueOutcome("no SLOT when it began", x, 2, DONE, 0, 7, 1, 0);
    }

    /** RACE off: SLOTS and FAR TIMES mean nothing. No SLOTS: RACE means nothing. */
    private static void slotOnlyWithRace() {
        RunOrder x = racing(1, 0, a(9, 1, 0));
        x.about(0, false, 0, 1);
        CHECKS.due("RACE without SLOTS: run()", x.run(), 9);
        x.slots(4);
        CHECKS.due("RACE with SLOTS: run()", x.run(), 1);
        x.mode(RACE, false);
        CHECKS.due("SLOTS without RACE: run()", x.run(), 9);
        CHECKS.dueOutcome("SLOTS without RACE", x, 0, DONE, 0, 9, 1, 0);
    }

    /** A TRY that follows begins here anew, and far away if a SLOT is free at that time. */
    private static void triesAgainAskForASlotAnew() {
        RunOrder x = racing(2, 1, a(10, 1, 0), a(6, 1, 0));
        x.about(0, false, 0, 8);
        x.about(1, false, 0, 1);
        x.fails(1, 2, 0);
        x.retries(0, 2);
        // 1 has no SLOT at 0 and at 6; 0 ends far away at 8; at 12 the SLOT is free.
        CHECKS.due("a SLOT at last: run()", x.run(), 13);
        CHECKS.dueOutcome("a SLOT at last", x, 0, DONE, 0, 8, 1, 1);
        CHECKS.dueOutcome("a SLOT at last", x, 1, DONE, 0, 13, 3, 1);
        CHECKS.dueOrder("a SLOT at last", x, 0, 1, 1, 1);
    }

    /** "of one ACTION what runs here first": a TRY that ends on both sides ends once, here. */
    private static void bothSidesAtOneTime() {
        RunOrder x = racing(1, 1, a(4, 1, 7), a(4, 1, 7));
        x.about(0, false, 0, 4);
        x.about(1, false, 0, 4);
        x.fails(0, 1, 2);
        x.retries(2, 1);
        CHECKS.due("both sides: run()", x.run(), 12);
        CHECKS.dueOutcome("both sides", x, 0, DONE, 0, 8, 2, 0);
        CHECKS.dueOutcome("both sides", x, 1, DONE, 8, 12, 1, 0);
        CHECKS.due("both sides: peak(0)", x.peak(0), 1);
        CHECKS.due("both sides: peak(1)", x.peak(1), 7);
        x.retries(2, 0);
        CHECKS.due("both sides fail: run()", x.run(), 8);
        CHECKS.dueOutcome("both sides fail", x, 0, FAILED, 0, 4, 1, NONE);
    }

    /** What runs far away has a SLOT; CORES and MEMORY are taken once, here. */
    private static void farAwayTakesNothingHere() {
        RunOrder x = racing(4, 4, a(9, 2, 50), a(9, 2, 50));
        x.about(0, false, 0, 5);
        x.about(1, false, 0, 5);
        CHECKS.due("far away: run()", x.run(), 5);
        CHECKS.due("far away: peak(0)", x.peak(0), 4);
        CHECKS.due("far away: peak(1)", x.peak(1), 100);
    }

    /** "what it takes (or its SLOT) is free again .. likewise free", before any begins. */
    private static void freedAtOneTimeByManySides() {
        // At 3 the far side of 0 and the near side of 1 end: 2 needs the room and a SLOT of both.
        RunOrder x = racing(2, 2, a(9, 1, 50), a(3, 1, 50), a(2, 2, 100), a(1, 1, 0), a(1, 1, 0));
        x.about(0, false, 1, 3);
        x.about(1, false, 2, 8);
        x.about(2, false, 3, 1);
        x.about(3, false, 0, 1);
        x.needs(2, 0);
        x.needs(3, 2);
        x.needs(4, 3);
        CHECKS.due("freed by both: run()", x.run(), 6);
        CHECKS.dueOutcome("freed by both", x, 0, DONE, 0, 3, 1, 1);
        CHECKS.dueOutcome("freed by both", x, 1, DONE, 0, 3, 1, 0);
        CHECKS.dueOutcome("freed by both", x, 2, DONE, 3, 4, 1, 1);
        CHECKS.dueOutcome("freed by both", x, 3, DONE, 4, 5, 1, 0);
        CHECKS.due("freed by both: again", x.run(), 6);
    }

    /** Promise 10: the last end may be far away; what is cut there ends no later. */
    private static void lastOneEndedFarAway() {
        RunOrder x = racing(2, 1, a(1000, 1, 0), a(3, 1, 0));
        x.about(0, false, 0, 4);
        CHECKS.due("last far away: run()", x.run(), 4);
        x.about(0, false, 0, 2);
        CHECKS.due("last here: run()", x.run(), 3);
        RunOrder y = racing(1, 1, a(3, 1, 0));
        y.about(0, false, 0, 1000);
        CHECKS.due("cut far away: run()", y.run(), 3);
    }

    /** "WANTED are those and all that they NEED, all the way": once, by however many ways. */
    private static void wantedByTwoWays() {
        RunOrder x = new RunOrder(1, 0);
        for (int time : new int[] {1, 2, 3, 4, 5}) {
            x.action(time, 1, 0);
        }
        x.needs(3, 1);
        x.needs(3, 2);
        x.needs(1, 0);
        x.needs(2, 0);
        x.needs(4, 3);
        x.wish(3, true);
        CHECKS.due("two ways: run()", x.run(), 10);
        CHECKS.dueOrder("two ways", x, 0, 2, 1, 3);
        dueStates("two ways", x, DONE, DONE, DONE, DONE, 0);
        x.wish(0, true);
        x.wish(3, false);
        CHECKS.due("what needs it is not WANTED: run()", x.run(), 1);
        dueStates("what needs it is not WANTED", x, DONE, 0, 0, 0, 0);
    }

    /** Promise 11, "as by now": NEEDS and wishes told after the first ask count. */
    private static void restByLaterNeeds() {
        RunOrder x = house(1, 0, a(1, 1, 0), a(10, 1, 0), a(100, 1, 0), a(1000, 1, 0));
        CHECKS.due("alone: rest(0)", x.rest(0), 1);
        x.needs(1, 0);
        CHECKS.due("needed by 1: rest(0)", x.rest(0), 11);
        x.needs(3, 2);
        CHECKS.due("not needed by 2: rest(0)", x.rest(0), 11);
        CHECKS.due("needed by 3: rest(2)", x.rest(2), 1100);
        x.needs(2, 0);
        CHECKS.due("needed by 2: rest(0)", x.rest(0), 1101);
        x.wish(3, false);
        CHECKS.due("3 not WANTED: rest(0)", x.rest(0), 101);
        CHECKS.due("3 not WANTED: rest(3)", x.rest(3), 0);
        x.wish(2, false);
        CHECKS.due("2 not WANTED: rest(0)", x.rest(0), 11);
        x.fails(1, 3, 0);
        x.about(1, true, 255, 1);
        CHECKS.due("TIME alone counts: rest(0)", x.rest(0), 11);
        x.wish(1, false);
        CHECKS.due("by itself: rest(0)", x.rest(0), 1);
        x.action(1, 16, 1);
        x.wish(4, true);
        x.run();
        CHECKS.due("HOPELESS ones have one: rest(4)", x.rest(4), 1);
    }

    /** (1) "by the ACTIONS' numbers": with FAIL FAST the lesser number is asked first. */
    private static void endsByNumbersNotByRest() {
        // 1 has the greater REST and begins first; both fail at 5.
        RunOrder x = house(2, 0, a(5, 1, 0), a(5, 1, 0), a(9, 0, 0));
        x.needs(2, 1);
        x.fails(0, 1, 0);
        x.fails(1, 1, 1);
        x.mode(FAIL_FAST, true);
        x.retries(0, 1);
        CHECKS.due("0 may try again: run()", x.run(), 5);
        CHECKS.dueOrder("0 may try again", x, 1, 0);
        dueStates("0 may try again", x, STOPPED, FAILED, SKIPPED);
        x.retries(0, 0);
        x.retries(1, 1);
        x.run();
        dueStates("1 comes too late", x, FAILED, FAILED, SKIPPED);
        CHECKS.due("1 comes too late: first()", x.first(), 0);
    }

    /** (1) "FAIL FAST is on and one is FAILED .. already": earlier, not later. */
    private static void failedBeforeAndAtOneTime() {
        RunOrder x = house(2, 0, a(6, 1, 0), a(3, 1, 0));
        x.fails(0, 1, 0);
        x.fails(1, 3, 1);
        x.retries(0, 1);
        x.retries(1, 1);
        x.mode(FAIL_FAST, true);
        // At 6 both fail: 0 WAITS again, 1 is FAILED then, and 0 is STOPPED.
        CHECKS.due("failed at one time: run()", x.run(), 6);
        CHECKS.dueOutcome("failed at one time", x, 0, STOPPED, 0, 6, 1, NONE);
        CHECKS.dueOutcome("failed at one time", x, 1, FAILED, 0, 6, 2, NONE);
        x.retries(1, 0);
        // 1 is FAILED at 3, so 0 may not try again at 6.
        x.run();
        CHECKS.dueOutcome("failed before", x, 0, FAILED, 0, 6, 1, NONE);
        CHECKS.due("failed before: first()", x.first(), 0);
        x.retries(1, 3);
        CHECKS.due("none failed: run()", x.run(), 12);
        dueStates("none failed", x, DONE, DONE);
    }

    /** (2) before (3): what NEEDS a FAILED one is SKIPPED, all the way, the others STOPPED. */
    private static void skippedBeforeStopped() {
        RunOrder x = house(2, 0, a(2, 1, 0), a(9, 1, 0), a(1, 1, 0), a(1, 1, 0), a(1, 1, 0));
        x.needs(2, 3);
        x.needs(3, 0);
        x.needs(4, 1);
        x.fails(0, 1, 0);
        x.mode(FAIL_FAST, true);
        CHECKS.due("skipped or stopped: run()", x.run(), 9);
        dueStates("skipped or stopped", x, FAILED, DONE, SKIPPED, SKIPPED, STOPPED);
    }

    /** HOPELESS "at once", and only "WANTED ones that take more .. than the HOUSE has". */
    private static void hopelessNeededOnes() {
        RunOrder x = house(2, 3, a(5, 1, 0), a(1, 3, 0), a(1, 0, 4), a(4, 2, 3));
        x.needs(1, 0);
        x.needs(0, 2);
        x.about(1, false, 0, 1);
        x.slots(4);
        x.mode(RACE, true);
        CHECKS.due("hopeless: run()", x.run(), 4);
        // 1 NEEDS a SKIPPED one, but was HOPELESS before.
        dueStates("hopeless", x, SKIPPED, HOPELESS, HOPELESS, DONE);
        CHECKS.due("hopeless: first()", x.first(), 1);
        CHECKS.due("hopeless: peak(0)", x.peak(0), 2);
        CHECKS.due("hopeless: peak(1)", x.peak(1), 3);
    }

    /** "TESTS are READY just if no ACTION that is no TEST WAITS or runs": TESTS hold up none. */
    private static void testsAmongThemselves() {
        RunOrder x = house(2, 0, a(3, 1, 0), a(4, 1, 0), a(5, 1, 0));
        for (int i = 0; i < 3; i++) {
            x.about(i, true, 0, 0);
        }
        x.needs(1, 0);
        x.action(9, 1, 0);
        x.mode(TESTS_LAST, true);
        CHECKS.due("tests alone: run()", x.run(), 7);
        CHECKS.dueOrder("tests alone", x, 0, 2, 1);
        dueBegins("tests alone", x, 0, 3, 0);
        x.wish(3, true);
        CHECKS.due("tests behind one: run()", x.run(), 16);
        dueBegins("tests behind one", x, 9, 12, 9, 0);
        x.mode(FAIL_FAST, true);
        x.fails(3, 1, 0);
        CHECKS.due("tests stopped: run()", x.run(), 9);
        dueStates("tests stopped", x, STOPPED, STOPPED, STOPPED, FAILED);
    }

    /** "It is over when nothing runs; those that still WAIT are STOPPED then." */
    private static void testsLastWithDeadEndBehindTries() {
        RunOrder x = house(1, 0, a(3, 1, 0), a(4, 1, 0), a(5, 1, 0), a(2, 1, 0));
        x.about(0, true, 0, 0);
        x.needs(1, 0);
        x.needs(2, 1);
        x.fails(3, 3, 0);
        x.retries(0, 3);
        x.mode(TESTS_LAST, true);
        CHECKS.due("dead end: run()", x.run(), 8);
        dueStates("dead end", x, STOPPED, STOPPED, STOPPED, DONE);
        CHECKS.dueOutcome("dead end", x, 0, STOPPED, NONE, NONE, 0, NONE);
        x.wish(3, false);
        CHECKS.due("dead end at once: run()", x.run(), 0);
        dueStates("dead end at once", x, STOPPED, STOPPED, STOPPED, 0);
        CHECKS.due("dead end at once: first()", x.first(), NONE);
    }

    /** (4) "CORES, MEMORY and LOCKS that it takes are free": to the last unit of MEMORY. */
    private static void blockedByMemoryAlone() {
        RunOrder x = house(16, 1000000, a(5, 1, 999999), a(4, 1, 1), a(3, 1, 1), a(2, 1, 0));
        CHECKS.due("memory to the last: run()", x.run(), 7);
        dueBegins("memory to the last", x, 0, 0, 4, 4);
        CHECKS.due("memory to the last: peak(1)", x.peak(1), 1000000);
        x.mode(PACK, true);
        x.run();
        dueBegins("memory to the last, PACK", x, 0, 0, 4, 0);
    }

    /** PACK: each one behind is asked for itself, by what is left then. */
    private static void packAsksEachAnew() {
        RunOrder x = house(3, 0, a(9, 2, 0), a(8, 2, 0), a(7, 1, 0), a(6, 1, 0), a(5, 0, 0), a(4, 0, 0));
        x.about(0, false, 4, 0);
        x.about(4, false, 4, 0);
        x.mode(PACK, true);
        CHECKS.due("PACK: run()", x.run(), 17);
        CHECKS.dueOrder("PACK", x, 0, 2, 5, 3, 1, 4);
        dueBegins("PACK", x, 0, 9, 0, 7, 9, 0);
        x.mode(PACK, false);
        CHECKS.due("no PACK: run()", x.run(), 22);
        CHECKS.dueOrder("no PACK", x, 0, 1, 2, 3, 4, 5);
        dueBegins("no PACK", x, 0, 9, 9, 16, 16, 16);
    }

    /** What is told is of the latest RUN, though nothing began in it. */
    private static void nothingBeginsAfterARun() {
        RunOrder x = house(2, 9, a(3, 2, 9), a(2, 1, 1));
        x.fails(0, 1, 0);
        CHECKS.due("some run: run()", x.run(), 5);
        CHECKS.due("some run: first()", x.first(), 0);
        x.wish(0, false);
        x.wish(1, false);
        CHECKS.due("nothing runs: run()", x.run(), 0);
        CHECKS.due("nothing runs: first()", x.first(), NONE);
        CHECKS.dueOrder("nothing runs", x);
        CHECKS.due("nothing runs: peak(0)", x.peak(0), 0);
        CHECKS.due("nothing runs: peak(1)", x.peak(1), 0);
        CHECKS.dueOutcome("nothing runs", x, 0, 0, NONE, NONE, 0, NONE);
        // Runs, but takes nothing.
        x.wish(x.action(6, 0, 0), true);
        CHECKS.due("takes nothing: run()", x.run(), 6);
        CHECKS.due("takes nothing: peak(0)", x.peak(0), 0);
        CHECKS.due("takes nothing: peak(1)", x.peak(1), 0);
    }

    /** Promise 12: the first begin, the last end and the TRIES of one that WAITS between them. */
    private static void toldOfTriesThatFailed() {
        // At 2 the first TRY of 0 has failed, and 1 goes before it with all the CORES.
        RunOrder x = house(2, 0, a(2, 1, 0), a(5, 2, 0), a(2, 1, 0));
        x.fails(0, 3, 0);
        x.retries(0, 2);
        x.needs(1, 2);
        CHECKS.due("tries: run()", x.run(), 11);
        CHECKS.dueOutcome("tries", x, 0, FAILED, 0, 11, 3, NONE);
        CHECKS.dueOrder("tries", x, 2, 0, 1, 0, 0);
        x.retries(0, 3);
        CHECKS.due("one more: run()", x.run(), 13);
        CHECKS.dueOutcome("one more", x, 0, DONE, 0, 13, 4, 0);
        // None is left of another KIND's.
        x.fails(0, 1, 1);
        CHECKS.due("another KIND: run()", x.run(), 7);
        CHECKS.dueOutcome("another KIND", x, 0, FAILED, 0, 2, 1, NONE);
    }
}
