import java.util.ArrayList;
import java.util.Arrays;
import java.util.List;
import java.util.TreeSet;

/**
 * What holds in any state: a refused call changes nothing, a question changes nothing, and no call throws.
 *
 * Each call with edge arguments is made on an object in each state; if it is refused, or is a question, then
 * all that the object answers afterwards must be what a twin answers on which the call was not made.
 */
public final class CellSwitchAnyState {
    private static final int[] STATIONS = {Integer.MIN_VALUE, -1, 0, 1, 2, 3, 4, Integer.MAX_VALUE};
    private static final int[] CIRCUITS = {Integer.MIN_VALUE, -1, 0, 1, 2, 3, 4, 5, 6, 7, 8, Integer.MAX_VALUE};
    private static final int LONG_RUN = 100000;

    private static final int MIXED_STATES = 120;

    private static int wrong = 0;
    private static long row = 0;

    private interface Step {
        int on(CellSwitch x);
    }

    private interface Build {
        void on(CellSwitch x);
    }

    private static final class Call {
        final String method;
        final String text;
        final Step step;

        Call(String method, Step step, int... arguments) {
            this.method = method;
            this.text = method + Arrays.toString(arguments);
            this.step = step;
        }
    }

    private static final class State {
        final String name;
        final Build build;

        State(String name, Build build) {
            this.name = name;
            this.build = build;
        }

        CellSwitch make() {
            CellSwitch x = new CellSwitch();
            build.on(x);
            return x;
        }
    }

    private static void fault(String text) {
        wrong++;
        if (wrong <= 40) {
            System.out.println(text);
        }
    }

    // The calls

    private static void addOpen(List<Call> calls, int c, int ends, int gap, int tolerance) {
        calls.add(new Call("open", x -> x.open(c, ends, gap, tolerance), c, ends, gap, tolerance));
    }

    private static void addOpens(List<Call> calls) {
        for (int c : CIRCUITS) {
            addOpen(calls, c, 0, 1, 0);
            addOpen(calls, c, 15, 8, 40);
            for (int ends : new int[] {Integer.MIN_VALUE, -1, 16, Integer.MAX_VALUE}) {
                addOpen(calls, c, ends, 2, 3);
            }
            for (int gap : new int[] {Integer.MIN_VALUE, 0, 9, Integer.MAX_VALUE}) {
                addOpen(calls, c, 6, gap, 3);
            }
            for (int tolerance : new int[] {Integer.MIN_VALUE, -1, 41, Integer.MAX_VALUE}) {
                addOpen(calls, c, 6, 2, tolerance);
            }
            addOpen(calls, c, 16, 9, 41);
        }
    }

    private static void addOfCircuit(List<Call> calls) {
        for (int c : CIRCUITS) {
            calls.add(new Call("close", x -> x.close(c), c));
            calls.add(new Call("waiting", x -> x.waiting(c), c));
            calls.add(new Call("post", x -> x.post(c), c));
        }
    }

    private static void addOfBuffer(List<Call> calls) {
        for (int b : new int[] {Integer.MIN_VALUE, -1, 0, 170, 255, 256, Integer.MAX_VALUE}) {
            calls.add(new Call("fill", x -> x.fill(b), b));
        }
        for (int many : new int[] {Integer.MIN_VALUE, -1, 0, 1, 22, 23, 27, 28, Integer.MAX_VALUE}) {
            for (int seed : new int[] {Integer.MIN_VALUE, -1, 171, Integer.MAX_VALUE}) {
                for (int step : new int[] {Integer.MIN_VALUE, -1, 0, Integer.MAX_VALUE}) {
                    calls.add(new Call("run", x -> x.run(seed, step, many), seed, step, many));
                }
            }
        }
    }

    private static void addOfStation(List<Call> calls) {
        for (int s : STATIONS) {
            calls.add(new Call("queued", x -> x.queued(s), s));
            calls.add(new Call("inbox", x -> x.inbox(s), s));
            calls.add(new Call("first", x -> x.first(s), s));
            calls.add(new Call("take", x -> x.take(s), s));
            calls.add(new Call("wary", x -> x.wary(s), s));
            for (int i : new int[] {Integer.MIN_VALUE, -1, 0, 3, 26, 27, Integer.MAX_VALUE}) {
                calls.add(new Call("byteOf", x -> x.byteOf(s, i), s, i));
            }
            for (int kind : new int[] {Integer.MIN_VALUE, -1, 0, 1, 2, 3, 4, Integer.MAX_VALUE}) {
                calls.add(new Call("turn", x -> x.turn(s, kind, -1), s, kind, -1));
                calls.add(new Call("turn", x -> x.turn(s, kind, Integer.MIN_VALUE), s, kind, Integer.MIN_VALUE));
            }
        }
    }

    private static List<Call> allCalls() {
        List<Call> calls = new ArrayList<>();
        addOpens(calls);
        addOfCircuit(calls);
        addOfBuffer(calls);
        addOfStation(calls);
        for (int ticks : new int[] {Integer.MIN_VALUE, -1, 0, 1, 200, 201, Integer.MAX_VALUE}) {
            calls.add(new Call("pass", x -> x.pass(ticks), ticks));
        }
        for (int what : new int[] {Integer.MIN_VALUE, -1, 0, 1, 2, 3, 4, 5, 6, 7, Integer.MAX_VALUE}) {
            calls.add(new Call("counted", x -> x.counted(what), what));
        }
        calls.add(new Call("time", x -> x.time()));
        return calls;
    }

    private static boolean isQuestion(String method) {
        return Arrays.asList("waiting", "time", "queued", "inbox", "first", "byteOf", "counted", "wary")
            .contains(method);
    }

    // The states

    private static void post(CellSwitch x, int c, int seed, int bytes) {
        x.run(seed, 1, bytes);
        x.post(c);
    }

    /** Queues to station 0 are crowded, frames are partly sent, kept and broken, and bits are turned ahead. */
    private static void crowded(CellSwitch x) {
        for (int s = 0; s < 4; s++) {
            x.open(s, 4 * s, 1, 40);
            x.open(s + 4, 4 * s + 1, 8 - s, s);
            post(x, s, 40 * s, 27);
            post(x, s, 40 * s, 27);
            post(x, s + 4, 10 * s, 20);
        }
        x.turn(1, 1, 0);
        x.turn(2, 2, 0);
        x.pass(5);
        for (int s = 0; s < 4; s++) {
            x.turn(s, (s + 1) % 4, 0);
        }
        x.run(90, 7, 5);
    }

    /** All inboxes are full, the buffer is full, and half a frame is kept of each open circuit. */
    private static void fullInboxes(CellSwitch x) {
        for (int c = 0; c < 6; c++) {
            x.open(c, 4 * (c % 4) + (c + 2) % 4, 1, 40);
        }
        for (int round = 0; round < 5; round++) {
            for (int s = 0; s < 4; s++) {
                post(x, s, 30 * round + s, 1 + round);
            }
            x.pass(2);
        }
        for (int c = 0; c < 6; c++) {
            post(x, c, 77, 12);
        }
        x.pass(2);
        x.turn(3, 2, 0);
        x.run(5, 11, 27);
    }

    /** The rates are narrow: DUE is far ahead of the time, and frames are broken. */
    private static void aheadOfTime(CellSwitch x) {
        for (int c = 0; c < 8; c++) {
            x.open(c, 4 * (c % 4) + (c + 1) % 4, 8, 5 * c);
            post(x, c, c, 27);
            post(x, c, c, 27);
        }
        x.turn(0, 1, 0);
        x.pass(7);
        x.run(1, 1, 4);
    }

    /** Circuits that were in use are closed, and some of them opened otherwise. */
    private static void closedAgain(CellSwitch x) {
        aheadOfTime(x);
        x.pass(30);
        for (int c = 0; c < 8; c++) {
            x.close(c);
        }
        x.open(2, 7, 2, 1);
        x.open(5, 13, 3, 0);
        x.post(2);
        post(x, 2, 8, 8);
        x.pass(1);
        x.turn(1, 3, 0);
    }

    /** The next number of a fixed row, 0 .. bound - 1. */
    private static int below(int bound) {
        row = row * 6364136223846793005L + 1442695040888963407L;
        return (int) ((row >>> 33) % bound);
    }

    /** A state that many mixed calls have made: in some of them a queue is crowded, in some rates are narrow. */
    private static void mixed(CellSwitch x, int number) {
        row = 0x9E3779B97F4A7C15L * (number + 1);
        for (int c = 0; c < 8; c++) {
            switch (number % 3) {
                case 0 -> x.open(c, 4 * below(4) + number % 4, 1, 40);
                case 1 -> x.open(c, below(16), 1 + below(8), below(9));
                default -> x.open(c, below(16), 2 + below(2), below(41));
            }
        }
        for (int round = 0; round < 12; round++) {
            for (int i = 0; i < 3; i++) {
                post(x, below(8), below(256), 1 + below(27));
            }
            x.turn(below(4), below(4), 0);
            x.pass(1 + below(2));
            if (below(5) == 0) {
                x.close(below(8));
            }
        }
        for (int s = 0; s < 4; s++) {
            x.turn(s, below(3), 0);
        }
        x.pass(1);
        for (int s = 0; s < 4; s++) {
            x.turn(s, below(4), 0);
        }
        x.run(below(256), below(256), number % 2 == 0 ? 27 : below(27));
    }

    private static List<State> allStates() {
        List<State> states = new ArrayList<>();
        for (int number = 0; number < MIXED_STATES; number++) {
            int chosen = number;
            states.add(new State("mixed " + chosen, x -> mixed(x, chosen)));
        }
        states.add(new State("new", x -> { }));
        states.add(new State("one circuit open", x -> x.open(3, 9, 2, 0)));
        states.add(new State("two frames wait", x -> {
            x.open(0, 1, 3, 2);
            post(x, 0, 5, 27);
            post(x, 0, 6, 1);
        }));
        states.add(new State("two frames wait and the buffer is full", x -> {
            x.open(0, 1, 3, 2);
            post(x, 0, 5, 27);
            post(x, 0, 6, 1);
            x.run(7, 3, 27);
        }));
        states.add(new State("crowded", CellSwitchAnyState::crowded));
        states.add(new State("full inboxes", CellSwitchAnyState::fullInboxes));
        states.add(new State("ahead of time", CellSwitchAnyState::aheadOfTime));
        states.add(new State("closed again", CellSwitchAnyState::closedAgain));
        return states;
    }

    // What is seen afterwards

    private static void askAll(CellSwitch x, List<Integer> seen) {
        seen.add(x.time());
        for (int s = 0; s < 4; s++) {
            seen.add(x.queued(s));
            seen.add(x.inbox(s));
            seen.add(x.wary(s));
        }
        for (int c = 0; c < 8; c++) {
            seen.add(x.waiting(c));
        }
        for (int what = 0; what < 7; what++) {
            seen.add(x.counted(what));
        }
    }

    private static void takeAll(CellSwitch x, List<Integer> seen) {
        for (int s = 0; s < 4; s++) {
            for (int left = x.inbox(s); left > 0; left--) {
                seen.add(x.byteOf(s, 0));
                seen.add(x.take(s));
            }
        }
    }

    /** Posts where no post or fill is refused: a refusal here would hide what a refusal before has changed. */
    private static void postWhereRoom(CellSwitch x, List<Integer> seen) {
        int held = x.run(0, 0, 0);
        for (int c = 0; c < 8; c++) {
            int waits = x.waiting(c);
            if (waits == 0 || waits == 1) {
                seen.add(held < 27 ? x.fill(c) : held);
                seen.add(x.post(c));
                held = 0;
            }
        }
    }

    /** Frames are sent at once, which shows the turns, DUE, and what is turned, broken and kept. */
    private static List<Integer> sendAtOnce(CellSwitch x) {
        List<Integer> seen = new ArrayList<>();
        askAll(x, seen);
        takeAll(x, seen);
        postWhereRoom(x, seen);
        for (int i = 0; i < 4; i++) {
            seen.add(x.pass(1));
            askAll(x, seen);
            takeAll(x, seen);
        }
        seen.add(x.pass(20));
        askAll(x, seen);
        return seen;
    }

    /** All that is under way comes to an end, then the bytes of the buffer are looked at. */
    private static List<Integer> readBuffer(CellSwitch x) {
        List<Integer> seen = new ArrayList<>();
        seen.add(x.run(0, 0, 0));
        takeAll(x, seen);
        for (int i = 0; i < 4; i++) {
            seen.add(x.pass(8));
            takeAll(x, seen);
        }
        for (int c = 0; c < 8; c++) {
            seen.add(x.close(c));
        }
        seen.add(x.open(6, 11, 1, 40));
        seen.add(x.post(6));
        seen.add(x.pass(4));
        for (int i = 0; i <= 27; i++) {
            seen.add(x.byteOf(3, i));
        }
        askAll(x, seen);
        return seen;
    }

    private static void compare(State state, Call call, String how, List<Integer> got, List<Integer> want) {
        if (!got.equals(want)) {
            fault(state.name + ": " + call.text + " was refused or is a question, but " + how
                + " answers " + got + " then, due is " + want);
        }
    }

    private static void changesNothing(List<State> states, List<Call> calls, TreeSet<String> refusals) {
        for (State state : states) {
            List<Integer> sent = sendAtOnce(state.make());
            List<Integer> read = readBuffer(state.make());
            for (Call call : calls) {
                CellSwitch x = state.make();
                int answer = call.step.on(x);
                if (answer < 0) {
                    refusals.add(call.method + answer);
                } else if (!isQuestion(call.method)) {
                    continue;
                }
                due(state, call, call.step.on(x), answer);
                compare(state, call, "sending", sendAtOnce(x), sent);
                CellSwitch y = state.make();
                due(state, call, call.step.on(y), answer);
                compare(state, call, "reading", readBuffer(y), read);
            }
        }
    }

    private static void due(State state, Call call, int got, int want) {
        if (got != want) {
            fault(state.name + ": " + call.text + " answered " + got + ", and before " + want);
        }
    }

    /** The states above must show each kind of refusal that the document names, and no other. */
    private static void allRefusalsSeen(TreeSet<String> refusals) {
        TreeSet<String> named = new TreeSet<>(Arrays.asList(
            "open-1", "open-4", "close-1", "close-2", "close-4", "waiting-1", "waiting-2", "fill-1", "fill-3",
            "run-1", "run-3", "post-1", "post-2", "post-3", "pass-1", "turn-1", "queued-1", "inbox-1",
            "first-1", "first-2", "byteOf-1", "byteOf-2", "take-1", "take-2", "counted-1", "wary-1"));
        if (!refusals.equals(named)) {
            fault("the refusals seen were " + refusals + ", due is " + named);
        }
    }

    /** Each call in each state, and then a long life: past the 512th call the answers are free, but none throws. */
    private static void throwsNothing(List<State> states, List<Call> calls) {
        for (State state : states) {
            CellSwitch x = state.make();
            for (Call call : calls) {
                call.step.on(x);
            }
            // A stride that shares no factor with the number of calls goes through them in a mixed order.
            int stride = 7919;
            int at = 0;
            for (int i = 0; i < LONG_RUN; i++) {
                at = (at + stride) % calls.size();
                calls.get(at).step.on(x);
                if (i % 3 == 0) {
                    x.open(i % 8, i % 16, 1 + i % 8, i % 41);
                    x.run(i, i, 1 + i % 27);
                    x.post(i % 8);
                    x.pass(i % 3);
                }
            }
        }
    }

    public static void main(String[] args) {
        List<State> states = allStates();
        List<Call> calls = allCalls();
        TreeSet<String> refusals = new TreeSet<>();
        try {
            changesNothing(states, calls, refusals);
            allRefusalsSeen(refusals);
            throwsNothing(states, calls);
        } catch (RuntimeException thrown) {
            fault("a call threw " + thrown);
            thrown.printStackTrace(System.out);
        }
        System.out.println(states.size() + " states, " + calls.size() + " calls: "
            + (wrong == 0 ? "all answers are as due" : wrong + " answers are not as due"));
        if (wrong != 0) {
            System.exit(1);
        }
    }
}
