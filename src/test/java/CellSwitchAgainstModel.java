import java.util.ArrayList;
import java.util.List;

/**
 * Long mixed runs of calls, answered by CellSwitch and by a model that is written from the document
 * with lists of frames and cells; every answer must be the same.
 */
public final class CellSwitchAgainstModel {
    private static final int RUNS = 3000;
    private static final int CALLS = 512;

    private static int wrong = 0;
    private static long state;
    private static final long[] seen = new long[7];
    private static long busyCloses = 0;
    private static long fullPosts = 0;

    /** A plain congruential sequence: the same calls at every run of the test. */
    private static int below(int bound) {
        state = state * 6364136223846793005L + 1442695040888963407L;
        return (int) ((state >>> 33) % bound);
    }

    private static int within(int from, int to) {
        return from + below(to - from + 1);
    }

    /** Mostly a number of the range, at times one beside it or far out. */
    private static int around(int from, int to) {
        int kind = below(40);
        if (kind == 0) {
            return from - 1;
        }
        if (kind == 1) {
            return to + 1;
        }
        if (kind == 2) {
            return below(2) == 0 ? Integer.MIN_VALUE : Integer.MAX_VALUE;
        }
        return within(from, to);
    }

    private static int any() {
        state = state * 6364136223846793005L + 1442695040888963407L;
        return (int) (state >>> 32);
    }

    static final class Frame {
        int circuit;
        int[] bytes;
        int sent = 0;
        boolean dropped = false;

        int cells() {
            return (bytes.length + 12) / 8;
        }
    }

    static final class Cell {
        Frame frame;
        boolean last;
        boolean turned;
    }

    static final class Circuit {
        final int from;
        final int to;
        final int gap;
        final int tolerance;
        int due = 0;
        final List<Frame> waiting = new ArrayList<>();
        final List<Cell> kept = new ArrayList<>();

        Circuit(int ends, int gap, int tolerance) {
            this.from = ends / 4;
            this.to = ends % 4;
            this.gap = gap;
            this.tolerance = tolerance;
        }
    }

    static final class Model {
        final Circuit[] circuits = new Circuit[8];
        final List<List<Cell>> queues = new ArrayList<>();
        final List<List<Frame>> inboxes = new ArrayList<>();
        final List<Integer> buffer = new ArrayList<>();
        final int[] lastSent = {7, 7, 7, 7};
        final int[] ahead = new int[4];
        final boolean[] wary = new boolean[4];
        final int[] counts = new int[7];
        int time = 0;

        Model() {
            for (int s = 0; s < 4; s++) {
                queues.add(new ArrayList<>());
                inboxes.add(new ArrayList<>());
            }
        }

        static boolean out(int x, int from, int to) {
            return x < from || x > to;
        }

        int open(int c, int ends, int gap, int tolerance) {
            if (out(c, 0, 7) || out(ends, 0, 15) || out(gap, 1, 8) || out(tolerance, 0, 40)) {
                return -1;
            }
            if (circuits[c] != null) {
                return -4;
            }
            circuits[c] = new Circuit(ends, gap, tolerance);
            return 0;
        }

        int close(int c) {
            if (out(c, 0, 7)) {
                return -1;
            }
            if (circuits[c] == null) {
                return -2;
            }
            for (List<Cell> queue : queues) {
                for (Cell cell : queue) {
                    if (cell.frame.circuit == c) {
                        return -4;
                    }
                }
            }
            int waited = circuits[c].waiting.size();
            circuits[c] = null;
            return waited;
        }

        int waiting(int c) {
            if (out(c, 0, 7)) {
                return -1;
            }
            return circuits[c] == null ? -2 : circuits[c].waiting.size();
        }

        int fill(int b) {
            if (out(b, 0, 255)) {
                return -1;
            }
            if (buffer.size() == 27) {
                return -3;
            }
            buffer.add(b);
            return buffer.size();
        }

        int run(int seed, int step, int many) {
            if (many < 0) {
                return -1;
            }
            if ((long) many + buffer.size() > 27) {
                return -3;
            }
            for (int i = 0; i < many; i++) {
                buffer.add((int) Math.floorMod((long) seed + (long) step * i, 256L));
            }
            return buffer.size();
        }

        int post(int c) {
            if (out(c, 0, 7)) {
                return -1;
            }
            if (circuits[c] == null) {
                return -2;
            }
            if (buffer.isEmpty()) {
                return -2;
            }
            if (circuits[c].waiting.size() == 2) {
                return -3;
            }
            Frame frame = new Frame();
            frame.circuit = c;
            frame.bytes = buffer.stream().mapToInt(b -> b).toArray();
            buffer.clear();
            circuits[c].waiting.add(frame);
            return frame.cells();
        }

        int pass(int ticks) {
            if (out(ticks, 0, 200)) {
                return -1;
            }
            int came = 0;
            for (int i = 0; i < ticks; i++) {
                came += tick();
            }
            return came;
        }

        int tick() {
            time++;
            for (int s = 0; s < 4; s++) {
                send(s);
            }
            int came = 0;
            for (int s = 0; s < 4; s++) {
                if (!queues.get(s).isEmpty()) {
                    came += arrive(s, queues.get(s).remove(0));
                }
            }
            return came;
        }

        void send(int s) {
            int chosen = -1;
            for (int i = 8; i >= 1; i--) {
                int c = (lastSent[s] + i) % 8;
                if (circuits[c] != null && circuits[c].from == s && !circuits[c].waiting.isEmpty()) {
                    chosen = c;
                }
            }
            if (chosen < 0) {
                return;
            }
            lastSent[s] = chosen;
            Circuit circuit = circuits[chosen];
            Cell cell = new Cell();
            cell.frame = circuit.waiting.get(0);
            cell.frame.sent++;
            cell.last = cell.frame.sent == cell.frame.cells();
            if (cell.last) {
                circuit.waiting.remove(0);
            }
            int kind = ahead[s];
            ahead[s] = 0;
            cell.turned = kind == 3;
            if (kind == 2) {
                wary[s] = true;
                counts[3]++;
            } else if (kind == 1 && wary[s]) {
                counts[3]++;
            } else {
                wary[s] = kind == 1;
                atSwitch(circuit, cell);
            }
        }

        void atSwitch(Circuit circuit, Cell cell) {
            if (time < circuit.due - circuit.tolerance) {
                counts[0]++;
                cell.frame.dropped = true;
                return;
            }
            circuit.due = Math.max(time, circuit.due) + circuit.gap;
            if (cell.frame.dropped && !cell.last) {
                counts[1]++;
                return;
            }
            if (queues.get(circuit.to).size() == 6) {
                counts[2]++;
                cell.frame.dropped = true;
                return;
            }
            queues.get(circuit.to).add(cell);
        }

        int arrive(int s, Cell cell) {
            List<Cell> kept = circuits[cell.frame.circuit].kept;
            kept.add(cell);
            if (!cell.last) {
                return 0;
            }
            boolean good = kept.size() == cell.frame.cells();
            for (Cell k : kept) {
                good &= k.frame == cell.frame && !k.turned;
            }
            kept.clear();
            if (!good) {
                counts[5]++;
                return 0;
            }
            if (inboxes.get(s).size() == 4) {
                counts[6]++;
                return 0;
            }
            inboxes.get(s).add(cell.frame);
            counts[4]++;
            return 1;
        }

        int turn(int station, int kind) {
            if (out(station, 0, 3) || out(kind, 0, 3)) {
                return -1;
            }
            ahead[station] = kind;
            return 0;
        }

        int queued(int station) {
            return out(station, 0, 3) ? -1 : queues.get(station).size();
        }

        int inbox(int station) {
            return out(station, 0, 3) ? -1 : inboxes.get(station).size();
        }

        int first(int station) {
            if (out(station, 0, 3)) {
                return -1;
            }
            if (inboxes.get(station).isEmpty()) {
                return -2;
            }
            Frame frame = inboxes.get(station).get(0);
            return 32 * frame.circuit + frame.bytes.length;
        }

        int byteOf(int station, int i) {
            int first = first(station);
            if (first < 0) {
                return first;
            }
            int[] bytes = inboxes.get(station).get(0).bytes;
            return out(i, 0, bytes.length - 1) ? -2 : bytes[i];
        }

        int take(int station) {
            int first = first(station);
            if (first >= 0) {
                inboxes.get(station).remove(0);
            }
            return first;
        }

        int counted(int what) {
            return out(what, 0, 6) ? -1 : counts[what];
        }

        int wary(int station) {
            if (out(station, 0, 3)) {
                return -1;
            }
            return wary[station] ? 1 : 0;
        }
    }

    private static boolean same(int run, int number, String call, int got, int want) {
        if (got != want) {
            wrong++;
            System.out.println("run " + run + ", call " + number + ": " + call + " answered " + got + ", due is " + want);
        }
        return got == want;
    }

    /** Makes one call on both and tells whether they answered alike. */
    private static boolean call(int run, int n, CellSwitch x, Model m, int style) {
        int c = around(0, 7);
        int s = around(0, 3);
        switch (below(20)) {
            case 0: {
                // A narrow end in some styles, so that queues fill up.
                int ends = style == 1 ? 4 * below(4) + 2 : around(0, 15);
                int gap = style == 1 ? 1 : around(1, 8);
                int tolerance = style == 2 ? within(0, 3) : around(0, 40);
                return same(run, n, "open(" + c + ", " + ends + ", " + gap + ", " + tolerance + ")",
                    x.open(c, ends, gap, tolerance), m.open(c, ends, gap, tolerance));
            }
            case 1: {
                int want = m.close(c);
                busyCloses += want == -4 ? 1 : 0;
                return same(run, n, "close(" + c + ")", x.close(c), want);
            }
            case 2:
                return same(run, n, "waiting(" + c + ")", x.waiting(c), m.waiting(c));
            case 3: {
                int b = around(0, 255);
                return same(run, n, "fill(" + b + ")", x.fill(b), m.fill(b));
            }
            case 4: case 5: case 6: case 7: {
                int seed = any();
                int step = below(3) == 0 ? any() : within(-9, 9);
                int many = below(10) == 0 ? around(0, 28) : within(0, 9);
                return same(run, n, "run(" + seed + ", " + step + ", " + many + ")",
                    x.run(seed, step, many), m.run(seed, step, many));
            }
            case 8: case 9: case 10: case 11: {
                int want = m.post(c);
                fullPosts += want == -3 ? 1 : 0;
                return same(run, n, "post(" + c + ")", x.post(c), want);
            }
            case 12: case 13: {
                int ticks = below(60) == 0 ? around(0, 200) : below(style == 1 ? 2 : 5);
                return same(run, n, "pass(" + ticks + ")", x.pass(ticks), m.pass(ticks));
            }
            case 14: {
                int kind = around(0, 3);
                int which = any();
                return same(run, n, "turn(" + s + ", " + kind + ", " + which + ")",
                    x.turn(s, kind, which), m.turn(s, kind));
            }
            case 15: {
                int what = around(0, 6);
                return same(run, n, "counted(" + what + ")", x.counted(what), m.counted(what));
            }
            case 16:
                return same(run, n, "take(" + s + ")", x.take(s), m.take(s));
            case 17: {
                int i = around(0, 27);
                return same(run, n, "byteOf(" + s + ", " + i + ")", x.byteOf(s, i), m.byteOf(s, i));
            }
            case 18:
                return same(run, n, "queued(" + s + ")", x.queued(s), m.queued(s))
                    & same(run, n, "wary(" + s + ")", x.wary(s), m.wary(s));
            default:
                return same(run, n, "first(" + s + ")", x.first(s), m.first(s))
                    & same(run, n, "inbox(" + s + ")", x.inbox(s), m.inbox(s))
                    & same(run, n, "time()", x.time(), m.time);
        }
    }

    /** Opens circuits at the start of a run, so that most posts find one. */
    private static void openSome(CellSwitch x, Model m, int run, int style) {
        for (int c = 0; c < 8; c++) {
            if (below(4) == 0) {
                continue;
            }
            int ends = style == 1 ? 4 * (c % 4) + 2 : below(16);
            int gap = style == 1 ? 1 : within(1, 8);
            int tolerance = style == 2 ? within(0, 3) : within(0, 40);
            same(run, 0, "open(" + c + ", " + ends + ", " + gap + ", " + tolerance + ")",
                x.open(c, ends, gap, tolerance), m.open(c, ends, gap, tolerance));
        }
    }

    private static void compareRuns() {
        for (int run = 0; run < RUNS && wrong < 20; run++) {
            state = 77L + run;
            int style = run % 3;
            CellSwitch x = new CellSwitch();
            Model m = new Model();
            openSome(x, m, run, style);
            // Some calls of the mix are two or three questions, so this stays within the object's 512 calls.
            boolean alike = true;
            for (int n = 1; n <= CALLS * 3 / 4 && alike; n++) {
                alike = call(run, n, x, m, style);
            }
            for (int what = 0; what < 7; what++) {
                same(run, CALLS, "counted(" + what + ")", x.counted(what), m.counted(what));
                seen[what] += m.counts[what];
            }
        }
    }

    /** What the answers are after the 512th call is free, but no call may throw. */
    private static void goOnForLong() {
        state = 5L;
        CellSwitch x = new CellSwitch();
        for (int n = 0; n < 300000; n++) {
            int c = around(0, 7);
            int s = around(0, 3);
            x.open(c, around(0, 15), around(1, 8), around(0, 40));
            x.run(any(), any(), within(-1, 28));
            x.fill(around(0, 255));
            x.post(c);
            x.turn(s, around(0, 3), any());
            x.pass(below(4));
            x.byteOf(s, around(0, 27));
            if (below(3) == 0) {
                x.take(s);
                x.close(around(0, 7));
            }
        }
    }

    private static void expectSeen(String what, long times) {
        if (times == 0) {
            wrong++;
            System.out.println("the runs never showed: " + what);
        }
    }

    public static void main(String[] args) {
        compareRuns();
        goOnForLong();
        for (int what = 0; what < 7; what++) {
            expectSeen("counted(" + what + ") above 0", seen[what]);
        }
        expectSeen("close answering BUSY", busyCloses);
        expectSeen("post answering FULL", fullPosts);
        System.out.println(wrong == 0 ? "all answers are as due" : wrong + " answers are not as due");
        if (wrong != 0) {
            System.exit(1);
        }
    }
}
