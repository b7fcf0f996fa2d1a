import java.util.Random;

/** Long runs of calls from fixed seeds, each answer held against the model's. */
public final class ModelTest {
    private static final int OBJECTS = 4000;
    // What later calls answer is free.
    private static final int CALLS = 512;
    private static final int TOLD_AT_MOST = 20;

    private final Random random;
    private final RunOrder x;
    private final Model model;
    private final StringBuilder calls = new StringBuilder();
    // Small times bring many ends at one time; large ones reach the edges.
    private final int mostTime;
    private int known;
    private int made;
    private boolean isWrong;

    private ModelTest(long seed) {
        random = new Random(seed);
        int cores = random.nextInt(12) == 0 ? odd() : 1 + random.nextInt(6);
        int memory = random.nextInt(12) == 0 ? odd() : random.nextInt(30);
        mostTime = random.nextInt(20) == 0 ? 1000 : 1 + random.nextInt(8);
        x = new RunOrder(cores, memory);
        model = new Model(cores, memory);
        calls.append("seed ").append(seed).append(": new RunOrder(").append(cores).append(", ")
                .append(memory).append(")\n");
    }

    public static void main(String[] args) {
        int wrong = 0;
        for (int seed = 0; seed < OBJECTS && wrong < TOLD_AT_MOST; seed++) {
            ModelTest test = new ModelTest(seed);
            while (test.made < CALLS && !test.isWrong) {
                test.callOne();
            }
            wrong += test.isWrong ? 1 : 0;
        }
        if (wrong != 0) {
            System.out.println("ModelTest: " + wrong + " objects answered otherwise than the model");
            System.exit(1);
        }
    }

    private int odd() {
        int[] odd = {Integer.MIN_VALUE, -7, -1, 0, 1, 3, 4, 5, 16, 17, 24, 1000, 1001, 1000000, 1000001,
            Integer.MAX_VALUE};
        return odd[random.nextInt(odd.length)];
    }

    /** Mostly 0 .. most, now and then something beyond. */
    private int upTo(int most) {
        return random.nextInt(25) == 0 ? odd() : random.nextInt(most + 1);
    }

    private int someAction() {
        return upTo(Math.max(0, known - 1));
    }

    private void same(String call, int got, int want) {
        made++;
        calls.append(call).append(" = ").append(got).append('\n');
        if (got != want && !isWrong) {
            isWrong = true;
            System.out.println(calls + "due is " + want);
        }
    }

    private void same(String call, boolean got, boolean want) {
        same(call, got ? 1 : 0, want ? 1 : 0);
    }

    private void callOne() {
        int choice = random.nextInt(40);
        if (choice < 6) {
            callAction();
        } else if (choice < 12) {
            callNeeds();
        } else if (choice < 17) {
            callWish();
        } else if (choice < 20) {
            callAbout();
        } else if (choice < 23) {
            callFails();
        } else if (choice < 28) {
            callHouse(choice);
        } else if (choice < 29) {
            callRun();
        } else {
            callAsking(choice);
        }
    }

    private void callAction() {
        int time = random.nextInt(25) == 0 ? odd() : 1 + random.nextInt(mostTime);
        int cores = upTo(4);
        int memory = upTo(20);
        int got = x.action(time, cores, memory);
        same("action(" + time + ", " + cores + ", " + memory + ")", got, model.action(time, cores, memory));
        known += got >= 0 ? 1 : 0;
    }

    private void callNeeds() {
        int a = someAction();
        int b = someAction();
        same("needs(" + a + ", " + b + ")", x.needs(a, b), model.needs(a, b));
    }

    private void callWish() {
        int a = someAction();
        boolean on = random.nextInt(4) != 0;
        same("wish(" + a + ", " + on + ")", x.wish(a, on), model.wish(a, on));
    }

    private void callAbout() {
        int a = someAction();
        boolean test = random.nextInt(3) == 0;
        int locks = random.nextInt(6) == 0 ? random.nextInt() : 1 << random.nextInt(10);
        int far = random.nextInt(25) == 0 ? odd() : random.nextInt(mostTime + 1);
        same("about(" + a + ", " + test + ", " + locks + ", " + far + ")",
                x.about(a, test, locks, far), model.about(a, test, locks, far));
    }

    private void callFails() {
        int a = someAction();
        int tries = upTo(3);
        int kind = upTo(3);
        same("fails(" + a + ", " + tries + ", " + kind + ")",
                x.fails(a, tries, kind), model.fails(a, tries, kind));
    }

    private void callHouse(int choice) {
        if (choice < 25) {
            int mode = upTo(3);
            // FAIL FAST cuts most of a run short, so it is rarely on.
            boolean on = random.nextInt(mode == 1 ? 4 : 2) == 0;
            same("mode(" + mode + ", " + on + ")", x.mode(mode, on), model.mode(mode, on));
        } else if (choice < 27) {
            int kind = upTo(3);
            int n = upTo(3);
            same("retries(" + kind + ", " + n + ")", x.retries(kind, n), model.retries(kind, n));
        } else {
            int n = upTo(4);
            same("slots(" + n + ")", x.slots(n), model.slots(n));
        }
    }

    private void callRun() {
        same("run()", x.run(), model.run());
        if (made < CALLS) {
            same("first()", x.first(), model.first());
        }
        for (int what = 0; what < 2 && made < CALLS; what++) {
            same("peak(" + what + ")", x.peak(what), model.peak(what));
        }
        for (int what = 0; what < 5; what++) {
            for (int a = 0; a < known && made < CALLS; a++) {
                same("outcome(" + a + ", " + what + ")", x.outcome(a, what), model.outcome(a, what));
            }
        }
        boolean isMore = true;
        for (int i = 0; isMore && made < CALLS; i++) {
            same("order(" + i + ")", x.order(i), model.order(i));
            isMore = model.order(i) >= 0;
        }
    }

    private void callAsking(int choice) {
        int a = someAction();
        int what = upTo(5);
        if (choice < 33) {
            same("rest(" + a + ")", x.rest(a), model.rest(a));
        } else if (choice < 36) {
            same("outcome(" + a + ", " + what + ")", x.outcome(a, what), model.outcome(a, what));
        } else if (choice < 38) {
            same("first()", x.first(), model.first());
        } else if (choice < 39) {
            same("order(" + a + ")", x.order(a), model.order(a));
        } else {
            same("peak(" + what + ")", x.peak(what), model.peak(what));
        }
    }
}
