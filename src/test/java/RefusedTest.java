import java.util.ArrayList;
import java.util.List;

/** Calls that are refused: each answers as its promise tells, and leaves everything as it was. */
public final class RefusedTest {
    private static final int[] NO_ACTION = {-1, 8, 9, 23, 24, 31, 32, 37, Integer.MIN_VALUE, Integer.MAX_VALUE};
    private static final int[] NOT_UP_TO_3 = {-1, 4, 5, 7, 256, Integer.MIN_VALUE, Integer.MAX_VALUE};
    private static final int[] NOT_UP_TO_4 = {-1, 5, 8, 256, Integer.MIN_VALUE, Integer.MAX_VALUE};
    private static final int[] NOT_UP_TO_1000 = {-1, 1001, 1024, Integer.MIN_VALUE, Integer.MAX_VALUE};

    private static final Checks CHECKS = new Checks("RefusedTest");

    /** A call that may be refused; a boolean counts 1 or 0. */
    private interface Call {
        int on(RunOrder x);
    }

    public static void main(String[] args) {
        everySettingShows();
        slots();
        action();
        about();
        fails();
        needs();
        wish();
        mode();
        retries();
        CHECKS.end();
    }

    /** Eight ACTIONS after a RUN, so chosen that no setting can change unseen. */
    private static RunOrder told() {
        RunOrder x = new RunOrder(4, 10);
        int[][] rows = {{5, 1, 2}, {7, 1, 3}, {4, 1, 1}, {6, 3, 4}, {4, 1, 1}, {3, 1, 5}, {2, 1, 1}, {8, 1, 1}};
        for (int[] r : rows) {
            x.wish(x.action(r[0], r[1], r[2]), true);
        }
        x.wish(7, false);
        x.about(0, false, 1, 3);
        x.about(1, false, 2, 4);
        x.about(2, true, 1, 0);
        x.about(4, false, 0, 1);
        x.about(5, false, 1, 1);
        x.fails(0, 1, 0);
        x.fails(1, 2, 2);
        x.fails(5, 2, 1);
        x.needs(2, 0);
        x.needs(3, 1);
        x.retries(0, 1);
        x.retries(1, 1);
        x.retries(2, 3);
        x.slots(2);
        x.mode(0, true);
        x.mode(3, true);
        x.run();
        return x;
    }

    /** All that can be asked; some 70 calls, so that an object stays under its 512. */
    private static String asked(RunOrder x) {
        List<Integer> all = new ArrayList<>();
        for (int a = 0; a < 9; a++) {
            all.add(x.rest(a));
            for (int what = 0; what < 5; what++) {
                all.add(x.outcome(a, what));
            }
        }
        all.add(x.first());
        for (int i = 0; i < 15; i++) {
            all.add(x.order(i));
        }
        all.add(x.peak(0));
        all.add(x.peak(1));
        return all.toString();
    }

    private static String askedAfterRun(RunOrder x) {
        return x.run() + ": " + asked(x);
    }

    private static void refused(String call, int answer, Call refused) {
        RunOrder before = told();
        RunOrder x = told();
        CHECKS.due(call, refused.on(x), answer);
        CHECKS.due(call + " changes nothing by now", asked(x).equals(asked(before)), true);
        CHECKS.due(call + " changes no run", askedAfterRun(x).equals(askedAfterRun(before)), true);
        CHECKS.due(call + " makes no action", x.action(1, 0, 0), 8);
    }

    /** Without this a refused call that changed something might go unseen. */
    private static void shows(String call, Call taken) {
        RunOrder x = told();
        taken.on(x);
        CHECKS.due(call + " shows in a run", askedAfterRun(x).equals(askedAfterRun(told())), false);
    }

    private static void everySettingShows() {
        for (int n : new int[] {0, 1, 3}) {
            shows("slots(" + n + ")", x -> flag(x.slots(n)));
        }
        for (int m = 0; m < 4; m++) {
            int mode = m;
            boolean on = m == 1 || m == 2;
            shows("mode(" + m + ", " + on + ")", x -> flag(x.mode(mode, on)));
        }
        shows("retries(0, 0)", x -> flag(x.retries(0, 0)));
        shows("retries(1, 0)", x -> flag(x.retries(1, 0)));
        shows("retries(1, 3)", x -> flag(x.retries(1, 3)));
        shows("retries(2, 0)", x -> flag(x.retries(2, 0)));
        shows("about(0, true, 1, 3)", x -> flag(x.about(0, true, 1, 3)));
        shows("about(0, false, 0, 3)", x -> flag(x.about(0, false, 0, 3)));
        shows("about(0, false, 1, 0)", x -> flag(x.about(0, false, 1, 0)));
        shows("fails(5, 1, 1)", x -> flag(x.fails(5, 1, 1)));
        shows("fails(5, 2, 2)", x -> flag(x.fails(5, 2, 2)));
        for (int a : new int[] {2, 3, 4, 5, 6, 7}) {
            shows("wish(" + a + ", " + (a == 7) + ")", x -> flag(x.wish(a, a == 7)));
        }
        shows("needs(0, 1)", x -> x.needs(0, 1));
    }

    private static int flag(boolean b) {
        return b ? 1 : 0;
    }

    /** Promise 2: "false if it isn't 0 .. 4". */
    private static void slots() {
        for (int n : NOT_UP_TO_4) {
            refused("slots(" + n + ")", 0, x -> flag(x.slots(n)));
        }
    }

    /** Promise 3: "NONE if .. something isn't as told"; one thing wrong at a time. */
    private static void action() {
        for (int time : new int[] {0, -1, 1001, 1024, Integer.MIN_VALUE, Integer.MAX_VALUE}) {
            refused("action(" + time + ", 1, 1)", -1, x -> x.action(time, 1, 1));
        }
        for (int cores : new int[] {-1, 17, 32, 256, Integer.MIN_VALUE, Integer.MAX_VALUE}) {
            refused("action(1, " + cores + ", 1)", -1, x -> x.action(1, cores, 1));
        }
        for (int memory : new int[] {-1, 1000001, Integer.MIN_VALUE, Integer.MAX_VALUE}) {
            refused("action(1, 1, " + memory + ")", -1, x -> x.action(1, 1, memory));
        }
    }

    /** Promise 4: "False if there is none such, or FAR TIME isn't 0 .. 1000". */
    private static void about() {
        for (int a : NO_ACTION) {
            refused("about(" + a + ", true, 255, 1)", 0, x -> flag(x.about(a, true, 255, 1)));
        }
        for (int far : NOT_UP_TO_1000) {
            refused("about(0, true, 254, " + far + ")", 0, x -> flag(x.about(0, true, 254, far)));
            refused("about(-1, true, 254, " + far + ")", 0, x -> flag(x.about(-1, true, 254, far)));
        }
    }

    /** Promise 5: "false if there is none such, or something isn't as told". */
    private static void fails() {
        for (int a : NO_ACTION) {
            refused("fails(" + a + ", 1, 1)", 0, x -> flag(x.fails(a, 1, 1)));
        }
        for (int wrong : NOT_UP_TO_3) {
            refused("fails(5, " + wrong + ", 2)", 0, x -> flag(x.fails(5, wrong, 2)));
            refused("fails(5, 1, " + wrong + ")", 0, x -> flag(x.fails(5, 1, wrong)));
            refused("fails(5, 0, " + wrong + ")", 0, x -> flag(x.fails(5, 0, wrong)));
        }
    }

    /** Promise 6: "- 1 if there are none such, or it does already; - 2 if a ring would be". */
    private static void needs() {
        for (int a : NO_ACTION) {
            refused("needs(" + a + ", 0)", -1, x -> x.needs(a, 0));
            refused("needs(0, " + a + ")", -1, x -> x.needs(0, a));
            refused("needs(" + a + ", " + a + ")", -1, x -> x.needs(a, a));
        }
        refused("needs(2, 0) again", -1, x -> x.needs(2, 0));
        refused("needs(3, 1) again", -1, x -> x.needs(3, 1));
        refused("needs(0, 2)", -2, x -> x.needs(0, 2));
        refused("needs(1, 3)", -2, x -> x.needs(1, 3));
        for (int i = 0; i < 8; i++) {
            int a = i;
            refused("needs(" + a + ", " + a + ")", -2, x -> x.needs(a, a));
        }
    }

    /** Promise 7: "false if there is none such". */
    private static void wish() {
        for (int a : NO_ACTION) {
            refused("wish(" + a + ", true)", 0, x -> flag(x.wish(a, true)));
            refused("wish(" + a + ", false)", 0, x -> flag(x.wish(a, false)));
        }
    }

    /** Promise 8: "false if there is none such". */
    private static void mode() {
        for (int m : NOT_UP_TO_3) {
            refused("mode(" + m + ", true)", 0, x -> flag(x.mode(m, true)));
            refused("mode(" + m + ", false)", 0, x -> flag(x.mode(m, false)));
        }
    }

    /** Promise 9: "false if there is none such, or it isn't 0 .. 3". */
    private static void retries() {
        for (int wrong : NOT_UP_TO_3) {
            refused("retries(" + wrong + ", 2)", 0, x -> flag(x.retries(wrong, 2)));
            refused("retries(0, " + wrong + ")", 0, x -> flag(x.retries(0, wrong)));
            refused("retries(1, " + wrong + ")", 0, x -> flag(x.retries(1, wrong)));
            refused("retries(2, " + wrong + ")", 0, x -> flag(x.retries(2, wrong)));
            refused("retries(" + wrong + ", " + wrong + ")", 0, x -> flag(x.retries(wrong, wrong)));
        }
    }
}
