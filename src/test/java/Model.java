import java.util.ArrayList;
import java.util.Comparator;
import java.util.HashMap;
import java.util.HashSet;
import java.util.List;
import java.util.Map;
import java.util.Set;

/**
 * The document a second time, with the Java library and made for plainness alone: what is
 * free is counted anew from what runs, and nothing is kept that can be counted.
 */
final class Model {
    private enum State { NOT_WANTED, DONE, FAILED, SKIPPED, STOPPED, HOPELESS, WAITS, RUNS }

    private static final class Action {
        final int number;
        final int time;
        final int cores;
        final int memory;
        boolean test;
        final Set<Integer> locks = new HashSet<>();
        int farTime;
        int failing;
        int kind;
        boolean wished;
        final Set<Action> needed = new HashSet<>();

        State state = State.NOT_WANTED;
        final List<Integer> began = new ArrayList<>();
        final List<Integer> ended = new ArrayList<>();
        int side = -1;
        int hereUntil;
        int farUntil;
        int retriesLeft;

        Action(int number, int time, int cores, int memory) {
            this.number = number;
            this.time = time;
            this.cores = cores;
            this.memory = memory;
        }

        /** Itself and all that it NEEDS, all the way. */
        void addAllTo(Set<Action> all) {
            if (all.add(this)) {
                needed.forEach(n -> n.addAllTo(all));
            }
        }

        boolean runsFar() {
            return state == State.RUNS && farUntil > 0;
        }
    }

    private final int cores;
    private final int memory;
    private int slots;
    private final List<Action> actions = new ArrayList<>();
    private final Set<Integer> modes = new HashSet<>();
    private final int[] retries = new int[4];
    private boolean ran;
    private final List<Action> order = new ArrayList<>();
    private int mostCores;
    private int mostMemory;

    Model(int cores, int memory) {
        this.cores = cores < 1 ? 1 : cores > 16 ? 16 : cores;
        this.memory = memory < 0 ? 0 : memory > 1000000 ? 1000000 : memory;
    }

    boolean slots(int n) {
        boolean right = n >= 0 && n <= 4;
        slots = right ? n : slots;
        return right;
    }

    int action(int time, int itsCores, int itsMemory) {
        if (actions.size() == 24 || time < 1 || time > 1000 || itsCores < 0 || itsCores > 16
                || itsMemory < 0 || itsMemory > 1000000) {
            return -1;
        }
        actions.add(new Action(actions.size(), time, itsCores, itsMemory));
        return actions.size() - 1;
    }

    private Action at(int number) {
        return number < 0 || number >= actions.size() ? null : actions.get(number);
    }

    boolean about(int number, boolean test, int locks, int farTime) {
        Action a = at(number);
        if (a == null || farTime < 0 || farTime > 1000) {
            return false;
        }
        a.test = test;
        a.farTime = farTime;
        a.locks.clear();
        for (int bit = 0; bit <= 7; bit++) {
            if ((locks >> bit) % 2 != 0) {
                a.locks.add(bit);
            }
        }
        return true;
    }

    boolean fails(int number, int tries, int kind) {
        Action a = at(number);
        if (a == null || tries < 0 || tries > 3 || kind < 0 || kind > 3) {
            return false;
        }
        a.failing = tries;
        a.kind = kind;
        return true;
    }

    int needs(int number, int other) {
        Action a = at(number);
        Action b = at(other);
        if (a == null || b == null || a.needed.contains(b)) {
            return -1;
        }
        Set<Action> behind = new HashSet<>();
        b.addAllTo(behind);
        if (behind.contains(a)) {
            return -2;
        }
        a.needed.add(b);
        return 1;
    }

    boolean wish(int number, boolean on) {
        Action a = at(number);
        if (a != null) {
            a.wished = on;
        }
        return a != null;
    }

    boolean mode(int mode, boolean on) {
        if (mode < 0 || mode > 3) {
            return false;
        }
        modes.remove(mode);
        if (on) {
            modes.add(mode);
        }
        return true;
    }

    boolean retries(int kind, int n) {
        if (kind < 0 || kind > 3 || n < 0 || n > 3) {
            return false;
        }
        retries[kind] = n;
        return true;
    }

    private Set<Action> wanted() {
        Set<Action> wanted = new HashSet<>();
        actions.stream().filter(a -> a.wished).forEach(a -> a.addAllTo(wanted));
        return wanted;
    }

    int rest(int number) {
        return rests().getOrDefault(at(number), 0);
    }

    private Map<Action, Integer> rests() {
        Set<Action> wanted = wanted();
        Map<Action, Integer> rests = new HashMap<>();
        wanted.forEach(a -> restOf(a, wanted, rests));
        return rests;
    }

    private int restOf(Action a, Set<Action> wanted, Map<Action, Integer> rests) {
        Integer known = rests.get(a);
        if (known != null) {
            return known;
        }
        int most = 0;
        for (Action above : wanted) {
            if (above.needed.contains(a)) {
                most = Math.max(most, restOf(above, wanted, rests));
            }
        }
        rests.put(a, a.time + most);
        return a.time + most;
    }

    int run() {
        ran = true;
        order.clear();
        mostCores = 0;
        mostMemory = 0;
        Map<Action, Integer> rests = rests();
        for (Action a : actions) {
            a.began.clear();
            a.ended.clear();
            a.side = -1;
            a.retriesLeft = retries[a.kind];
            boolean tooMuch = a.cores > cores || a.memory > memory;
            a.state = !rests.containsKey(a) ? State.NOT_WANTED : tooMuch ? State.HOPELESS : State.WAITS;
        }
        int last = 0;
        // No jump from end to end: every time up to the latest that can be.
        for (int clock = 0; clock == 0 || isAny(State.RUNS); clock++) {
            if (step(clock, rests)) {
                last = clock;
            }
        }
        turnAll(State.WAITS, State.STOPPED);
        return last;
    }

    private boolean isAny(State state) {
        return actions.stream().anyMatch(a -> a.state == state);
    }

    private void turnAll(State from, State to) {
        actions.stream().filter(a -> a.state == from).forEach(a -> a.state = to);
    }

    private boolean isBroken() {
        return isAny(State.FAILED) || isAny(State.HOPELESS);
    }

    /** Whether something ended; the MODES are 0 TESTS LAST, 1 FAIL FAST, 2 PACK, 3 RACE. */
    private boolean step(int clock, Map<Action, Integer> rests) {
        boolean ended = false;
        for (Action a : actions) {
            if (a.state == State.RUNS && (a.hereUntil == clock || a.farUntil == clock)) {
                end(a, clock);
                ended = true;
            }
        }
        if (clock > 0 && !ended) {
            return false;
        }
        while (skipOne()) {
            continue;
        }
        if (modes.contains(1) && isBroken()) {
            turnAll(State.WAITS, State.STOPPED);
        }
        beginAll(clock, rests);
        return ended;
    }

    private void end(Action a, int clock) {
        a.ended.add(clock);
        if (a.began.size() > a.failing) {
            a.state = State.DONE;
            a.side = a.hereUntil == clock ? 0 : 1;
        } else if (a.retriesLeft > 0 && !(modes.contains(1) && isBroken())) {
            a.retriesLeft--;
            a.state = State.WAITS;
        } else {
            a.state = State.FAILED;
        }
    }

    private boolean skipOne() {
        Set<State> bad = Set.of(State.FAILED, State.SKIPPED, State.HOPELESS);
        for (Action a : actions) {
            if (a.state == State.WAITS && a.needed.stream().anyMatch(n -> bad.contains(n.state))) {
                a.state = State.SKIPPED;
                return true;
            }
        }
        return false;
    }

    private void beginAll(int clock, Map<Action, Integer> rests) {
        List<Action> ready = new ArrayList<>();
        boolean othersLeft = actions.stream()
                .anyMatch(a -> !a.test && (a.state == State.WAITS || a.state == State.RUNS));
        for (Action a : actions) {
            boolean all = a.needed.stream().allMatch(n -> n.state == State.DONE);
            if (a.state == State.WAITS && all && !(a.test && modes.contains(0) && othersLeft)) {
                ready.add(a);
            }
        }
        ready.sort(Comparator.<Action>comparingInt(a -> -rests.get(a)).thenComparingInt(a -> a.number));
        for (Action a : ready) {
            if (fits(a)) {
                begin(a, clock);
            } else if (!modes.contains(2)) {
                break;
            }
        }
    }

    private int taken(boolean ofMemory) {
        return actions.stream().filter(a -> a.state == State.RUNS)
                .mapToInt(a -> ofMemory ? a.memory : a.cores).sum();
    }

    private boolean fits(Action a) {
        boolean locked = actions.stream()
                .anyMatch(o -> o.state == State.RUNS && o.locks.stream().anyMatch(a.locks::contains));
        return !locked && taken(false) + a.cores <= cores && taken(true) + a.memory <= memory;
    }

    private void begin(Action a, int clock) {
        long far = actions.stream().filter(Action::runsFar).count();
        a.state = State.RUNS;
        a.began.add(clock);
        a.hereUntil = clock + a.time;
        a.farUntil = modes.contains(3) && a.farTime > 0 && far < slots ? clock + a.farTime : -1;
        order.add(a);
        mostCores = Math.max(mostCores, taken(false));
        mostMemory = Math.max(mostMemory, taken(true));
    }

    int outcome(int number, int what) {
        Action a = at(number);
        if (a == null || !ran || what < 0 || what > 4) {
            return -1;
        }
        return switch (what) {
            case 0 -> a.state.ordinal();
            case 1 -> a.began.isEmpty() ? -1 : a.began.get(0);
            case 2 -> a.ended.isEmpty() ? -1 : a.ended.get(a.ended.size() - 1);
            case 3 -> a.began.size();
            default -> a.side;
        };
    }

    int first() {
        return actions.stream().filter(a -> a.state == State.FAILED || a.state == State.HOPELESS)
                .mapToInt(a -> a.number).findFirst().orElse(-1);
    }

    int order(int i) {
        return i < 0 || i >= order.size() ? -1 : order.get(i).number;
    }

    int peak(int what) {
        return what == 0 ? mostCores : what == 1 ? mostMemory : 0;
    }
}
