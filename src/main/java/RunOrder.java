/** The order in which actions run, by the promises of DOC.md. */
public final class RunOrder {
    public static final int NONE = -1;

    private static final int MOST_CORES = 16;
    private static final int MOST_MEMORY = 1000000;
    private static final int MOST_SLOTS = 4;
    private static final int MOST_ACTIONS = 24;
    private static final int MOST_TIME = 1000;
    private static final int MOST_FAILING = 3;
    private static final int MOST_RETRIES = 3;
    // The first TRY of each ACTION, and those that may follow it.
    private static final int MOST_BEGINS = MOST_ACTIONS * (1 + MOST_RETRIES);
    private static final int ALL_LOCKS = 255;
    private static final int KINDS = 4;

    private static final int MODES = 4;
    private static final int TESTS_LAST = 0;
    private static final int FAIL_FAST = 1;
    private static final int PACK = 2;
    private static final int RACE = 3;

    private static final int NOT_WANTED = 0;
    private static final int DONE = 1;
    private static final int FAILED = 2;
    private static final int SKIPPED = 3;
    private static final int STOPPED = 4;
    private static final int HOPELESS = 5;
    // These two are never told: when a RUN is over, no ACTION is left in them.
    private static final int WAITS = 6;
    private static final int RUNS = 7;

    private static final int HERE = 0;
    private static final int FAR_AWAY = 1;

    private static final int RING = -2;

    private final House house;
    private final Actions actions;
    private final Rules rules;
    private final Run latest;

    public RunOrder(int cores, int memory) {
        house = new House(nearest(cores, 1, MOST_CORES), nearest(memory, 0, MOST_MEMORY));
        actions = new Actions();
        rules = new Rules();
        latest = new Run(house, actions, rules);
    }

    public boolean slots(int n) {
        if (!within(n, 0, MOST_SLOTS)) {
            return false;
        }
        house.slots = n;
        return true;
    }

    public int action(int time, int cores, int memory) {
        boolean asTold = within(time, 1, MOST_TIME)
                && within(cores, 0, MOST_CORES)
                && within(memory, 0, MOST_MEMORY);
        return asTold ? actions.add(time, cores, memory) : NONE;
    }

    public boolean about(int action, boolean test, int locks, int farTime) {
        if (!actions.has(action) || !within(farTime, 0, MOST_TIME)) {
            return false;
        }
        actions.test[action] = test;
        actions.locks[action] = locks & ALL_LOCKS;
        actions.farTime[action] = farTime;
        return true;
    }

    public boolean fails(int action, int tries, int kind) {
        if (!actions.has(action) || !within(tries, 0, MOST_FAILING) || !within(kind, 0, KINDS - 1)) {
            return false;
        }
        actions.failing[action] = tries;
        actions.kind[action] = kind;
        return true;
    }

    public int needs(int action, int other) {
        if (!actions.has(action) || !actions.has(other)) {
            return NONE;
        }
        return actions.join(action, other);
    }

    public boolean wish(int action, boolean on) {
        if (!actions.has(action)) {
            return false;
        }
        actions.wished[action] = on;
        return true;
    }

    public boolean mode(int mode, boolean on) {
        if (!within(mode, 0, MODES - 1)) {
            return false;
        }
        rules.on[mode] = on;
        return true;
    }

    public boolean retries(int kind, int n) {
        if (!within(kind, 0, KINDS - 1) || !within(n, 0, MOST_RETRIES)) {
            return false;
        }
        rules.again[kind] = n;
        return true;
    }

    public int run() {
        return latest.goThrough();
    }

    public int rest(int action) {
        if (!actions.has(action)) {
            return 0;
        }
        int wanted = actions.wanted();
        if (!isIn(wanted, action)) {
            return 0;
        }
        actions.measureRests(wanted);
        return actions.rests[action];
    }

    public int outcome(int action, int what) {
        return actions.has(action) ? latest.tell(action, what) : NONE;
    }

    public int first() {
        return latest.firstBad();
    }

    public int order(int i) {
        return latest.begunAs(i);
    }

    public int peak(int what) {
        if (what == 0) {
            return house.mostCores;
        }
        return what == 1 ? house.mostMemory : 0;
    }

    private static boolean within(int n, int least, int most) {
        return least <= n && n <= most;
    }

    private static int nearest(int n, int least, int most) {
        return Math.max(least, Math.min(n, most));
    }

    // Sets of ACTIONS are bits of an int: there are at most 24.
    private static int only(int action) {
        return 1 << action;
    }

    private static boolean isIn(int set, int action) {
        return (set & only(action)) != 0;
    }

    /** What there is to take, what is taken by now, and the most that was. */
    private static final class House {
        final int cores;
        final int memory;
        int slots;
        int coresTaken;
        int memoryTaken;
        int locksTaken;
        int slotsTaken;
        int mostCores;
        int mostMemory;

        House(int cores, int memory) {
            this.cores = cores;
            this.memory = memory;
        }

        void clear() {
            coresTaken = 0;
            memoryTaken = 0;
            locksTaken = 0;
            slotsTaken = 0;
            mostCores = 0;
            mostMemory = 0;
        }

        boolean isTooSmallFor(int someCores, int someMemory) {
            return someCores > cores || someMemory > memory;
        }

        boolean hasFree(int someCores, int someMemory, int someLocks) {
            return someCores <= cores - coresTaken
                    && someMemory <= memory - memoryTaken
                    && (someLocks & locksTaken) == 0;
        }

        boolean hasFreeSlot() {
            return slotsTaken < slots;
        }

        void take(int someCores, int someMemory, int someLocks) {
            coresTaken += someCores;
            memoryTaken += someMemory;
            locksTaken |= someLocks;
            mostCores = Math.max(mostCores, coresTaken);
            mostMemory = Math.max(mostMemory, memoryTaken);
        }

        void giveBack(int someCores, int someMemory, int someLocks) {
            coresTaken -= someCores;
            memoryTaken -= someMemory;
            locksTaken &= ~someLocks;
        }
    }

    /** MODES and RETRIES. */
    private static final class Rules {
        final boolean[] on = new boolean[MODES];
        final int[] again = new int[KINDS];
    }

    /** The ACTIONS as they were told, a row for each thing told. */
    private static final class Actions {
        int count;
        final int[] time = new int[MOST_ACTIONS];
        final int[] cores = new int[MOST_ACTIONS];
        final int[] memory = new int[MOST_ACTIONS];
        final int[] locks = new int[MOST_ACTIONS];
        final int[] farTime = new int[MOST_ACTIONS];
        final int[] failing = new int[MOST_ACTIONS];
        final int[] kind = new int[MOST_ACTIONS];
        final boolean[] test = new boolean[MOST_ACTIONS];
        final boolean[] wished = new boolean[MOST_ACTIONS];
        final int[] needed = new int[MOST_ACTIONS];
        // All that an ACTION NEEDS, all the way: rings and WANTED ones are seen at a glance.
        final int[] neededDeep = new int[MOST_ACTIONS];
        final int[] rests = new int[MOST_ACTIONS];

        boolean has(int action) {
            return 0 <= action && action < count;
        }

        int add(int itsTime, int itsCores, int itsMemory) {
            if (count >= MOST_ACTIONS) {
                return NONE;
            }
            time[count] = itsTime;
            cores[count] = itsCores;
            memory[count] = itsMemory;
            count++;
            return count - 1;
        }

        int join(int action, int other) {
            if (isIn(needed[action], other)) {
                return NONE;
            }
            if (action == other || isIn(neededDeep[other], action)) {
                return RING;
            }
            needed[action] |= only(other);
            int more = neededDeep[other] | only(other);
            for (int a = 0; a < count; a++) {
                if (a == action || isIn(neededDeep[a], action)) {
                    neededDeep[a] |= more;
                }
            }
            return 1;
        }

        int wanted() {
            int set = 0;
            for (int a = 0; a < count; a++) {
                if (wished[a]) {
                    set |= only(a) | neededDeep[a];
                }
            }
            return set;
        }

        // Each round settles one link more of every chain of needs, and no chain has
        // more links than there are ACTIONS; so what the rows held before is no matter.
        void measureRests(int wanted) {
            boolean moved = true;
            for (int round = 0; moved && round < count; round++) {
                moved = false;
                for (int a = 0; a < count; a++) {
                    int rest = time[a] + greatestRestAbove(a, wanted);
                    moved = moved || rest != rests[a];
                    rests[a] = rest;
                }
            }
        }

        private int greatestRestAbove(int action, int wanted) {
            int greatest = 0;
            for (int a = 0; a < count; a++) {
                if (isIn(wanted, a) && isIn(needed[a], action)) {
                    greatest = Math.max(greatest, rests[a]);
                }
            }
            return greatest;
        }
    }

    /** The latest RUN: its steps, and what is told of it afterwards. */
    private static final class Run {
        private final House house;
        private final Actions actions;
        private final Rules rules;
        private boolean happened;
        private final int[] state = new int[MOST_ACTIONS];
        private final int[] firstBegan = new int[MOST_ACTIONS];
        private final int[] lastEnded = new int[MOST_ACTIONS];
        private final int[] tries = new int[MOST_ACTIONS];
        private final int[] doneBy = new int[MOST_ACTIONS];
        // When what runs on a side ends; NONE if nothing runs there.
        private final int[] endHere = new int[MOST_ACTIONS];
        private final int[] endFar = new int[MOST_ACTIONS];
        private final int[] begun = new int[MOST_BEGINS];
        private int begins;

        Run(House house, Actions actions, Rules rules) {
            this.house = house;
            this.actions = actions;
            this.rules = rules;
        }

        int goThrough() {
            prepare();
            int clock = 0;
            // At each time but the first a TRY ends, so there are no more times than these.
            for (int ends = 0; ends <= MOST_BEGINS; ends++) {
                endTries(clock);
                skipHindered();
                if (rules.on[FAIL_FAST] && isOneBad()) {
                    stopWaiting();
                }
                beginReady(clock);
                int next = nextEnd();
                if (next == NONE) {
                    break;
                }
                clock = next;
            }
            stopWaiting();
            return clock;
        }

        int tell(int action, int what) {
            if (!happened) {
                return NONE;
            }
            switch (what) {
                case 0: return state[action];
                case 1: return firstBegan[action];
                case 2: return lastEnded[action];
                case 3: return tries[action];
                case 4: return doneBy[action];
                default: return NONE;
            }
        }

        int firstBad() {
            for (int a = 0; a < actions.count; a++) {
                if (state[a] == FAILED || state[a] == HOPELESS) {
                    return a;
                }
            }
            return NONE;
        }

        int begunAs(int i) {
            return 0 <= i && i < begins ? begun[i] : NONE;
        }

        private void prepare() {
            happened = true;
            begins = 0;
            house.clear();
            int wanted = actions.wanted();
            actions.measureRests(wanted);
            // Rows of ACTIONS yet to come too: they are asked for before the next RUN.
            for (int a = 0; a < MOST_ACTIONS; a++) {
                state[a] = isIn(wanted, a) ? stateAtFirst(a) : NOT_WANTED;
                firstBegan[a] = NONE;
                lastEnded[a] = NONE;
                tries[a] = 0;
                doneBy[a] = NONE;
                endHere[a] = NONE;
                endFar[a] = NONE;
            }
        }

        private int stateAtFirst(int action) {
            return house.isTooSmallFor(actions.cores[action], actions.memory[action]) ? HOPELESS : WAITS;
        }

        private void endTries(int clock) {
            for (int a = 0; a < actions.count; a++) {
                if (endHere[a] == clock) {
                    endTry(a, clock, HERE);
                } else if (endFar[a] == clock) {
                    endTry(a, clock, FAR_AWAY);
                }
            }
        }

        private void endTry(int action, int clock, int side) {
            leaveBothSides(action);
            lastEnded[action] = clock;
            if (tries[action] > actions.failing[action]) {
                state[action] = DONE;
                doneBy[action] = side;
            } else {
                state[action] = mayTryAgain(action) ? WAITS : FAILED;
            }
        }

        private void leaveBothSides(int action) {
            house.giveBack(actions.cores[action], actions.memory[action], actions.locks[action]);
            endHere[action] = NONE;
            if (endFar[action] != NONE) {
                house.slotsTaken--;
                endFar[action] = NONE;
            }
        }

        private boolean mayTryAgain(int action) {
            boolean isLeft = tries[action] <= rules.again[actions.kind[action]];
            return isLeft && !(rules.on[FAIL_FAST] && isOneBad());
        }

        private boolean isOneBad() {
            return firstBad() != NONE;
        }

        private void skipHindered() {
            boolean more = true;
            for (int round = 0; more && round < actions.count; round++) {
                int hindering = allIn(FAILED) | allIn(SKIPPED) | allIn(HOPELESS);
                more = false;
                for (int a = 0; a < actions.count; a++) {
                    if (state[a] == WAITS && (actions.needed[a] & hindering) != 0) {
                        state[a] = SKIPPED;
                        more = true;
                    }
                }
            }
        }

        private int allIn(int someState) {
            int set = 0;
            for (int a = 0; a < actions.count; a++) {
                if (state[a] == someState) {
                    set |= only(a);
                }
            }
            return set;
        }

        private void stopWaiting() {
            for (int a = 0; a < actions.count; a++) {
                if (state[a] == WAITS) {
                    state[a] = STOPPED;
                }
            }
        }

        private void beginReady(int clock) {
            int left = allReady();
            for (int turn = 0; turn < actions.count; turn++) {
                int a = foremost(left);
                if (a == NONE) {
                    return;
                }
                left &= ~only(a);
                if (house.hasFree(actions.cores[a], actions.memory[a], actions.locks[a])) {
                    beginTry(a, clock);
                } else if (!rules.on[PACK]) {
                    return;
                }
            }
        }

        private int allReady() {
            int done = allIn(DONE);
            boolean testsToo = !rules.on[TESTS_LAST] || !isOtherThanTestLeft();
            int set = 0;
            for (int a = 0; a < actions.count; a++) {
                boolean isReady = state[a] == WAITS && (actions.needed[a] & ~done) == 0;
                if (isReady && (testsToo || !actions.test[a])) {
                    set |= only(a);
                }
            }
            return set;
        }

        private boolean isOtherThanTestLeft() {
            for (int a = 0; a < actions.count; a++) {
                if (!actions.test[a] && (state[a] == WAITS || state[a] == RUNS)) {
                    return true;
                }
            }
            return false;
        }

        private int foremost(int set) {
            int best = NONE;
            for (int a = 0; a < actions.count; a++) {
                // Not >=: of equal RESTS the least number stays.
                if (isIn(set, a) && (best == NONE || actions.rests[a] > actions.rests[best])) {
                    best = a;
                }
            }
            return best;
        }

        private void beginTry(int action, int clock) {
            house.take(actions.cores[action], actions.memory[action], actions.locks[action]);
            state[action] = RUNS;
            endHere[action] = clock + actions.time[action];
            if (rules.on[RACE] && actions.farTime[action] > 0 && house.hasFreeSlot()) {
                house.slotsTaken++;
                endFar[action] = clock + actions.farTime[action];
            }
            if (tries[action] == 0) {
                firstBegan[action] = clock;
            }
            tries[action]++;
            if (begins < MOST_BEGINS) {
                begun[begins] = action;
                begins++;
            }
        }

        private int nextEnd() {
            int next = NONE;
            for (int a = 0; a < actions.count; a++) {
                next = sooner(next, endHere[a]);
                next = sooner(next, endFar[a]);
            }
            return next;
        }

        private static int sooner(int one, int other) {
            if (one == NONE) {
                return other;
            }
            return other == NONE ? one : Math.min(one, other);
        }
    }
}
