import java.lang.reflect.Field;
import java.lang.reflect.Member;
import java.lang.reflect.Method;
import java.lang.reflect.Modifier;
import java.util.ArrayList;
import java.util.Arrays;
import java.util.List;
import java.util.TreeSet;

/** The promises of the document, each by its number: ordinary inputs, edges and wrong inputs. */
public final class CellSwitchPromises {
    private static final int BAD = -1;
    private static final int NONE = -2;
    private static final int FULL = -3;
    private static final int BUSY = -4;

    private static final int[] NO_STATION = {-1, 4, Integer.MIN_VALUE, Integer.MAX_VALUE};
    private static final int[] NO_CIRCUIT = {-1, 8, Integer.MIN_VALUE, Integer.MAX_VALUE};

    private static final int EARLY = 0;
    private static final int BROKEN = 1;
    private static final int CROWDED = 2;
    private static final int LOST = 3;
    private static final int GOOD = 4;
    private static final int SPOILED = 5;

    private static int wrong = 0;
    private static String part = "";

    private static void due(String what, int got, int want) {
        if (got != want) {
            wrong++;
            System.out.println(part + ": " + what + " answered " + got + ", due is " + want);
        }
    }

    private static int ends(int from, int to) {
        return 4 * from + to;
    }

    /** A new object with circuit c open at a rate that drops nothing. */
    private static CellSwitch with(int c, int from, int to) {
        CellSwitch x = new CellSwitch();
        openFreely(x, c, from, to);
        return x;
    }

    private static void openFreely(CellSwitch x, int c, int from, int to) {
        due("open " + c, x.open(c, ends(from, to), 1, 40), 0);
    }

    /** Posts a frame of so many bytes that begin with seed. */
    private static void send(CellSwitch x, int c, int seed, int bytes) {
        due("run before post", x.run(seed, 1, bytes), bytes);
        due("post " + c, x.post(c), (bytes + 12) / 8);
    }

    private static void dueCounts(CellSwitch x, int... want) {
        for (int what = 0; what < 7; what++) {
            due("counted(" + what + ")", x.counted(what), want[what]);
        }
    }

    // Promise 1

    private static void newObject() {
        part = "promise 1";
        CellSwitch x = new CellSwitch();
        due("time", x.time(), 0);
        for (int s = 0; s < 4; s++) {
            due("queued", x.queued(s), 0);
            due("inbox", x.inbox(s), 0);
            due("first", x.first(s), NONE);
            due("byteOf", x.byteOf(s, 0), NONE);
            due("take", x.take(s), NONE);
            due("wary", x.wary(s), 0);
        }
        for (int c = 0; c < 8; c++) {
            due("waiting", x.waiting(c), NONE);
            due("close", x.close(c), NONE);
            due("post", x.post(c), NONE);
        }
        dueCounts(x, 0, 0, 0, 0, 0, 0, 0);
        due("empty buffer", x.run(0, 0, 0), 0);
        due("ticks with nothing open", x.pass(200), 0);
        due("time", x.time(), 200);
    }

    private static void objectsAreApart() {
        part = "promise 1, two objects";
        CellSwitch x = with(3, 0, 1);
        CellSwitch y = new CellSwitch();
        send(x, 3, 9, 1);
        x.turn(0, 1, 0);
        due("pass", x.pass(1), 1);
        due("waiting in the other", y.waiting(3), NONE);
        due("inbox of the other", y.inbox(1), 0);
        due("wary of the other", y.wary(0), 0);
        due("time of the other", y.time(), 0);
        due("counted of the other", y.counted(GOOD), 0);
    }

    private static void theFace() {
        part = "the public face";
        due("BAD", CellSwitch.BAD, BAD);
        due("NONE", CellSwitch.NONE, NONE);
        due("FULL", CellSwitch.FULL, FULL);
        due("BUSY", CellSwitch.BUSY, BUSY);
        List<Member> members = new ArrayList<>();
        members.addAll(Arrays.asList(CellSwitch.class.getDeclaredFields()));
        members.addAll(Arrays.asList(CellSwitch.class.getDeclaredMethods()));
        TreeSet<String> seen = new TreeSet<>();
        for (Member m : members) {
            if (Modifier.isPrivate(m.getModifiers())) {
                continue;
            }
            due(m.getName() + " is public", Modifier.isPublic(m.getModifiers()) ? 1 : 0, 1);
            int inputs = m instanceof Method ? ((Method) m).getParameterCount() : -1;
            Class<?> type = m instanceof Method ? ((Method) m).getReturnType() : ((Field) m).getType();
            due(m.getName() + " is an int", type == int.class ? 1 : 0, 1);
            seen.add(m.getName() + inputs);
        }
        TreeSet<String> want = new TreeSet<>(Arrays.asList(
            "BAD-1", "NONE-1", "FULL-1", "BUSY-1", "open4", "close1", "waiting1", "fill1", "run3", "post1",
            "pass1", "turn3", "time0", "queued1", "inbox1", "first1", "byteOf2", "take1", "counted1", "wary1"));
        if (!seen.equals(want)) {
            due("the members " + seen + " are " + want, 0, 1);
        }
        due("constructors", CellSwitch.class.getDeclaredConstructors().length, 1);
        due("final", Modifier.isFinal(CellSwitch.class.getModifiers()) ? 1 : 0, 1);
    }

    // Promise 2

    private static void openRefuses() {
        part = "promise 2, refusals";
        CellSwitch x = new CellSwitch();
        for (int c : NO_CIRCUIT) {
            due("open circuit " + c, x.open(c, 0, 1, 0), BAD);
        }
        for (int e : new int[] {-1, 16, Integer.MIN_VALUE, Integer.MAX_VALUE}) {
            due("open ends " + e, x.open(0, e, 1, 0), BAD);
        }
        for (int g : new int[] {-1, 0, 9, Integer.MIN_VALUE, Integer.MAX_VALUE}) {
            due("open gap " + g, x.open(0, 0, g, 0), BAD);
        }
        for (int t : new int[] {-1, 41, Integer.MIN_VALUE, Integer.MAX_VALUE}) {
            due("open tolerance " + t, x.open(0, 0, 1, t), BAD);
        }
        due("still not open", x.waiting(0), NONE);
        due("least", x.open(0, 0, 1, 0), 0);
        due("greatest", x.open(7, 15, 8, 40), 0);
        due("open already", x.open(0, 5, 2, 2), BUSY);
        due("open already", x.open(7, 15, 8, 40), BUSY);
        due("BAD before BUSY: ends", x.open(0, 16, 1, 0), BAD);
        due("BAD before BUSY: gap", x.open(0, 0, 0, 0), BAD);
        due("BAD before BUSY: tolerance", x.open(0, 0, 1, 41), BAD);
    }

    private static void openEnds() {
        part = "promise 2, ends";
        for (int from = 0; from < 4; from++) {
            for (int to = 0; to < 4; to++) {
                CellSwitch x = with(5, from, to);
                due("refused", x.open(5, ends(to, from), 8, 0), BUSY);
                send(x, 5, 40, 4);
                x.turn(from, 1, 0);
                due("pass", x.pass(1), 0);
                for (int s = 0; s < 4; s++) {
                    due("wary of " + s, x.wary(s), s == from ? 1 : 0);
                }
                due("pass", x.pass(1), 1);
                for (int s = 0; s < 4; s++) {
                    due("inbox of " + s, x.inbox(s), s == to ? 1 : 0);
                }
            }
        }
    }

    private static void openBeginsAnew() {
        part = "promise 2, due is 0 again";
        CellSwitch x = new CellSwitch();
        due("open", x.open(1, ends(0, 1), 8, 0), 0);
        send(x, 1, 0, 1);
        due("pass", x.pass(1), 1);
        due("close", x.close(1), 0);
        due("open", x.open(1, ends(0, 1), 8, 0), 0);
        send(x, 1, 0, 1);
        due("not early", x.pass(1), 1);
        send(x, 1, 0, 1);
        due("early", x.pass(1), 0);
        due("counted early", x.counted(EARLY), 1);
    }

    // Promise 3

    private static void closeRefuses() {
        part = "promise 3, refusals";
        CellSwitch x = new CellSwitch();
        for (int c : NO_CIRCUIT) {
            due("close " + c, x.close(c), BAD);
        }
        due("not open", x.close(0), NONE);
        openFreely(x, 0, 0, 2);
        due("open", x.close(0), 0);
        due("closed", x.close(0), NONE);
        due("waiting", x.waiting(0), NONE);
        due("post", x.fill(1), 1);
        due("post", x.post(0), NONE);
    }

    private static void closeBusy() {
        part = "promise 3, a cell in a queue";
        CellSwitch x = with(0, 0, 2);
        openFreely(x, 1, 1, 2);
        send(x, 0, 10, 1);
        send(x, 1, 20, 1);
        due("pass", x.pass(1), 1);
        due("queued", x.queued(2), 1);
        due("the other", x.close(0), 0);
        due("in the queue", x.close(1), BUSY);
        due("still open", x.waiting(1), 0);
        due("pass", x.pass(1), 1);
        due("no more in the queue", x.close(1), 0);
        due("inbox stays", x.inbox(2), 2);
        due("first", x.take(2), 1);
        due("second", x.take(2), 33);
    }

    private static void closeForgetsWaiting() {
        part = "promise 3, frames that wait";
        CellSwitch x = with(4, 3, 0);
        send(x, 4, 1, 27);
        due("one", x.close(4), 1);
        openFreely(x, 4, 3, 0);
        due("gone", x.waiting(4), 0);
        send(x, 4, 1, 27);
        send(x, 4, 1, 27);
        due("pass", x.pass(3), 0);
        due("two, one of them begun", x.close(4), 2);
        due("nothing comes", x.pass(20), 0);
        dueCounts(x, 0, 0, 0, 0, 0, 0, 0);
        openFreely(x, 4, 3, 0);
        send(x, 4, 7, 12);
        due("begins with its first cell", x.pass(2), 0);
        due("and ends with its third", x.pass(1), 1);
        due("bytes", x.byteOf(0, 11), 18);
    }

    private static void closeForgetsKept() {
        part = "promise 3, cells that are kept";
        CellSwitch x = with(4, 3, 0);
        send(x, 4, 1, 4);
        x.turn(3, 3, 0);
        due("pass", x.pass(1), 0);
        due("close", x.close(4), 1);
        openFreely(x, 4, 1, 0);
        send(x, 4, 1, 4);
        due("good", x.pass(2), 1);
        dueCounts(x, 0, 0, 0, 0, 1, 0, 0);
    }

    private static void closeForgetsDropped() {
        part = "promise 3, dropped before";
        CellSwitch x = new CellSwitch();
        due("open", x.open(6, ends(0, 1), 8, 0), 0);
        send(x, 6, 1, 20);
        due("pass", x.pass(2), 0);
        due("early", x.counted(EARLY), 1);
        due("close", x.close(6), 1);
        openFreely(x, 6, 0, 1);
        send(x, 6, 1, 20);
        due("good", x.pass(4), 1);
        due("broken", x.counted(BROKEN), 0);
    }

    // Promise 4

    private static void waitingFrames() {
        part = "promise 4";
        CellSwitch x = with(2, 1, 1);
        for (int c : NO_CIRCUIT) {
            due("waiting " + c, x.waiting(c), BAD);
        }
        due("not open", x.waiting(1), NONE);
        due("none", x.waiting(2), 0);
        send(x, 2, 1, 4);
        due("one", x.waiting(2), 1);
        send(x, 2, 1, 1);
        due("two", x.waiting(2), 2);
        x.pass(1);
        due("one begun", x.waiting(2), 2);
        x.pass(1);
        due("first sent", x.waiting(2), 1);
        x.pass(1);
        due("all sent", x.waiting(2), 0);
    }

    // Promise 5

    private static void fillBuffer() {
        part = "promise 5";
        CellSwitch x = with(0, 0, 3);
        for (int b : new int[] {-1, 256, Integer.MIN_VALUE, Integer.MAX_VALUE}) {
            due("fill " + b, x.fill(b), BAD);
        }
        for (int i = 0; i < 27; i++) {
            due("fill", x.fill(i == 0 ? 0 : 256 - i), i + 1);
        }
        due("28th", x.fill(3), FULL);
        due("BAD before FULL", x.fill(256), BAD);
        due("BAD before FULL", x.fill(-1), BAD);
        due("post", x.post(0), 4);
        due("empty then", x.fill(77), 1);
        due("pass", x.pass(4), 1);
        for (int i = 0; i < 27; i++) {
            due("byte " + i, x.byteOf(3, i), i == 0 ? 0 : 256 - i);
        }
        due("post", x.post(0), 1);
        due("pass", x.pass(1), 1);
        x.take(3);
        due("next frame", x.byteOf(3, 0), 77);
    }

    // Promise 6

    private static void runBytes() {
        part = "promise 6";
        CellSwitch x = with(0, 0, 3);
        due("below 0", x.run(1, 1, -1), BAD);
        due("below 0", x.run(1, 1, Integer.MIN_VALUE), BAD);
        due("28", x.run(1, 1, 28), FULL);
        due("very many", x.run(1, 1, Integer.MAX_VALUE), FULL);
        due("none", x.run(1, 1, 0), 0);
        due("five", x.run(250, 3, 5), 5);
        due("very many", x.run(1, 1, Integer.MAX_VALUE), FULL);
        due("23 where 22 go", x.run(1, 1, 23), FULL);
        due("fall", x.run(-3, -100, 4), 9);
        due("wide", x.run(Integer.MAX_VALUE, Integer.MAX_VALUE, 3), 12);
        due("fill between", x.fill(200), 13);
        due("least", x.run(Integer.MIN_VALUE, Integer.MIN_VALUE, 2), 15);
        due("rest", x.run(7, 0, 12), 27);
        due("full", x.run(7, 0, 1), FULL);
        due("none when full", x.run(7, 0, 0), 27);
        due("BAD before FULL", x.run(7, 0, -1), BAD);
        due("post", x.post(0), 4);
        due("pass", x.pass(4), 1);
        int[] want = {250, 253, 0, 3, 6, 253, 153, 53, 209, 255, 254, 253, 200, 0, 0,
            7, 7, 7, 7, 7, 7, 7, 7, 7, 7, 7, 7};
        for (int i = 0; i < 27; i++) {
            due("byte " + i, x.byteOf(3, i), want[i]);
        }
    }

    // Promise 7

    private static void postRefuses() {
        part = "promise 7, refusals";
        CellSwitch x = with(0, 0, 1);
        for (int c : NO_CIRCUIT) {
            due("empty, post " + c, x.post(c), BAD);
        }
        due("empty", x.post(0), NONE);
        due("not open", x.post(1), NONE);
        due("fill", x.fill(5), 1);
        for (int c : NO_CIRCUIT) {
            due("post " + c, x.post(c), BAD);
        }
        due("not open", x.post(1), NONE);
        due("the buffer is as it was", x.fill(6), 2);
        due("first", x.post(0), 1);
        due("empty then", x.post(0), NONE);
        due("fill", x.fill(7), 1);
        due("second", x.post(0), 1);
        due("empty before FULL", x.post(0), NONE);
        due("fill", x.fill(8), 1);
        due("third", x.post(0), FULL);
        due("the buffer is as it was", x.fill(9), 2);
        due("waiting", x.waiting(0), 2);
        due("pass", x.pass(1), 1);
        due("room again", x.post(0), 1);
        due("pass", x.pass(2), 2);
        int[] lengths = {2, 1, 2};
        int[] firsts = {5, 7, 8};
        for (int i = 0; i < 3; i++) {
            due("byte", x.byteOf(1, 0), firsts[i]);
            due("frame", x.take(1), lengths[i]);
        }
    }

    private static void postCells() {
        part = "promise 7, cells";
        for (int bytes = 1; bytes <= 27; bytes++) {
            int cells = bytes <= 3 ? 1 : bytes <= 11 ? 2 : bytes <= 19 ? 3 : 4;
            CellSwitch x = with(7, 2, 2);
            due("run", x.run(bytes, 5, bytes), bytes);
            due("cells of " + bytes, x.post(7), cells);
            due("not yet", x.pass(cells - 1), 0);
            due("there", x.pass(1), 1);
            due("first", x.first(2), 224 + bytes);
            for (int i = 0; i < bytes; i++) {
                due("byte", x.byteOf(2, i), (bytes + 5 * i) & 255);
            }
            due("behind the last byte", x.byteOf(2, bytes), NONE);
        }
    }

    // Promise 8 and the tick

    private static void passRefuses() {
        part = "promise 8, refusals";
        CellSwitch x = with(0, 0, 1);
        send(x, 0, 1, 1);
        for (int ticks : new int[] {-1, 201, Integer.MIN_VALUE, Integer.MAX_VALUE}) {
            due("pass " + ticks, x.pass(ticks), BAD);
        }
        due("none", x.pass(0), 0);
        due("time", x.time(), 0);
        due("waiting", x.waiting(0), 1);
        due("most", x.pass(200), 1);
        due("time", x.time(), 200);
    }

    private static void passCountsAllInboxes() {
        part = "promise 8, answer";
        CellSwitch x = new CellSwitch();
        for (int s = 0; s < 4; s++) {
            openFreely(x, s, s, (s + 1) % 4);
            send(x, s, s, 1);
            send(x, s, s, 1);
        }
        due("two from each", x.pass(5), 8);
        due("no more", x.pass(5), 0);
        for (int s = 0; s < 4; s++) {
            due("inbox", x.inbox(s), 2);
        }
    }

    private static void stationsTakeTurns() {
        part = "tick, the circuits take turns";
        CellSwitch x = new CellSwitch();
        int[] circuits = {7, 1, 3, 0};
        for (int c : circuits) {
            openFreely(x, c, 0, 1);
            send(x, c, c, 1);
        }
        send(x, 1, 1, 1);
        due("pass", x.pass(4), 4);
        int[] order = {0, 1, 3, 7};
        for (int c : order) {
            due("in turn", x.take(1), 32 * c + 1);
        }
        due("again", x.pass(1), 1);
        due("the second of 1", x.take(1), 33);
        for (int c : new int[] {0, 1}) {
            send(x, c, c, 1);
        }
        due("after 1, by 7, to 0", x.pass(1), 1);
        due("0 before 1", x.take(1), 1);
        send(x, 7, 7, 1);
        due("after 0", x.pass(1), 1);
        due("1 before 7", x.take(1), 33);
        due("after 1", x.pass(1), 1);
        due("7", x.take(1), 225);
    }

    private static void turnsAreOfEachStation() {
        part = "tick, each station has its turns";
        CellSwitch x = new CellSwitch();
        for (int c = 0; c < 4; c++) {
            openFreely(x, c, c % 2, 2 + c % 2);
        }
        send(x, 2, 0, 1);
        due("2 from station 0", x.pass(1), 1);
        for (int c = 0; c < 4; c++) {
            send(x, c, 0, 1);
        }
        due("one each", x.pass(1), 2);
        x.take(2);
        due("0 after 2", x.take(2), 1);
        due("1 first", x.take(3), 33);
        due("one each", x.pass(1), 2);
        due("then 2", x.take(2), 65);
        due("then 3", x.take(3), 97);
    }

    private static void cellsInterleave() {
        part = "tick, cells of two circuits in turn";
        CellSwitch x = with(0, 0, 1);
        openFreely(x, 5, 0, 1);
        send(x, 0, 10, 4);
        send(x, 5, 20, 4);
        due("pass", x.pass(2), 0);
        due("pass", x.pass(1), 1);
        due("first", x.first(1), 4);
        due("pass", x.pass(1), 1);
        due("take", x.take(1), 4);
        due("second", x.first(1), 164);
        due("byte", x.byteOf(1, 3), 23);
        dueCounts(x, 0, 0, 0, 0, 2, 0, 0);
    }

    private static void rateWithoutTolerance() {
        part = "tick, gap 3 and tolerance 0";
        CellSwitch x = new CellSwitch();
        due("open", x.open(0, ends(0, 1), 3, 0), 0);
        int[] come = {1, 0, 0, 1, 0, 0, 1};
        int early = 0;
        for (int i = 0; i < come.length; i++) {
            send(x, 0, i, 1);
            due("time " + (i + 1), x.pass(1), come[i]);
            early += 1 - come[i];
            due("early", x.counted(EARLY), early);
            x.take(1);
        }
        x.pass(20);
        send(x, 0, 0, 1);
        due("late", x.pass(1), 1);
        x.pass(1);
        send(x, 0, 0, 1);
        due("the gap counts from the late one", x.pass(1), 0);
        send(x, 0, 0, 1);
        due("and ends here", x.pass(1), 1);
        dueCounts(x, early + 1, 0, 0, 0, 5, 0, 0);
    }

    private static void rateWithTolerance() {
        part = "tick, gap 3 and tolerance 2";
        CellSwitch x = new CellSwitch();
        due("open", x.open(0, ends(0, 1), 3, 2), 0);
        // DUE is 4 after time 1, 7 after time 2, and 10 after time 5.
        int[] come = {1, 1, 0, 0, 1, 0, 0, 1};
        for (int i = 0; i < come.length; i++) {
            send(x, 0, i, 1);
            due("time " + (i + 1), x.pass(1), come[i]);
            x.take(1);
        }
        dueCounts(x, 4, 0, 0, 0, 4, 0, 0);
    }

    private static void widestRate() {
        part = "tick, gap 8 and tolerance 40";
        CellSwitch x = new CellSwitch();
        due("open", x.open(0, ends(0, 1), 8, 40), 0);
        // DUE is 1 + 8 n after n cells at times 1 .. n, and the cell at time n + 1 is early when n + 1 < 8 n - 39.
        for (int n = 0; n < 6; n++) {
            send(x, 0, n, 1);
            due("cell " + n, x.pass(1), 1);
            x.take(1);
        }
        send(x, 0, 0, 1);
        due("early", x.pass(1), 0);
        send(x, 0, 0, 1);
        due("early", x.pass(1), 0);
        send(x, 0, 0, 1);
        due("time 9", x.pass(1), 1);
        dueCounts(x, 2, 0, 0, 0, 7, 0, 0);
    }

    private static void brokenFrame() {
        part = "tick, the rest of a frame is dropped";
        CellSwitch x = new CellSwitch();
        due("open", x.open(0, ends(0, 1), 2, 0), 0);
        send(x, 0, 0, 27);
        x.pass(1);
        dueCounts(x, 0, 0, 0, 0, 0, 0, 0);
        x.pass(1);
        dueCounts(x, 1, 0, 0, 0, 0, 0, 0);
        x.pass(1);
        dueCounts(x, 1, 1, 0, 0, 0, 0, 0);
        // The cell at time 3 was dropped for its frame, but it has moved DUE.
        x.pass(1);
        dueCounts(x, 2, 1, 0, 0, 0, 0, 0);
        send(x, 0, 0, 1);
        due("with a cell of the broken frame", x.pass(1), 0);
        dueCounts(x, 2, 1, 0, 0, 0, 1, 0);
        x.pass(5);
        send(x, 0, 0, 1);
        due("nothing is kept", x.pass(1), 1);
    }

    private static void lastCellGoesOn() {
        part = "tick, the last cell of a broken frame goes on";
        CellSwitch x = new CellSwitch();
        due("open", x.open(0, ends(0, 1), 2, 1), 0);
        send(x, 0, 0, 27);
        due("pass", x.pass(4), 0);
        dueCounts(x, 1, 0, 0, 0, 0, 1, 0);
        x.pass(9);
        send(x, 0, 0, 4);
        due("the next frame is not broken", x.pass(2), 1);
        dueCounts(x, 1, 0, 0, 0, 1, 1, 0);
    }

    private static void fullQueue() {
        part = "tick, a full queue";
        CellSwitch x = new CellSwitch();
        for (int s = 0; s < 4; s++) {
            openFreely(x, s, s, 0);
            send(x, s, 50 * s, 27);
        }
        int[] queued = {3, 5, 5, 5, 4, 3, 2, 1, 0};
        int[] crowded = {0, 1, 3, 6, 6, 6, 6, 6, 6};
        int[] broken = {0, 0, 1, 1, 1, 1, 1, 1, 1};
        for (int i = 0; i < 9; i++) {
            due("pass", x.pass(1), i == 8 ? 1 : 0);
            due("queued", x.queued(0), queued[i]);
            due("crowded", x.counted(CROWDED), crowded[i]);
            due("broken", x.counted(BROKEN), broken[i]);
        }
        due("first", x.first(0), 27);
        due("byte", x.byteOf(0, 26), 26);
        for (int s = 1; s < 4; s++) {
            due("queued elsewhere", x.queued(s), 0);
        }
        dueCounts(x, 0, 1, 6, 0, 1, 0, 0);
    }

    private static void queueInOrder() {
        part = "tick, a queue in order";
        CellSwitch x = new CellSwitch();
        for (int s = 0; s < 4; s++) {
            openFreely(x, 7 - s, s, 3);
            send(x, 7 - s, s, 1);
        }
        due("station 0 first", x.pass(1), 1);
        due("queued", x.queued(3), 3);
        due("the rest", x.pass(3), 3);
        for (int s = 0; s < 4; s++) {
            due("in order", x.take(3), 32 * (7 - s) + 1);
        }
    }

    private static void framesRunTogether() {
        part = "station, cells of two frames";
        CellSwitch x = with(0, 0, 1);
        send(x, 0, 0, 4);
        send(x, 0, 0, 4);
        x.pass(1);
        x.turn(0, 2, 0);
        x.pass(1);
        x.turn(0, 2, 0);
        x.pass(1);
        due("two cells, but of two frames", x.pass(1), 0);
        dueCounts(x, 0, 0, 0, 2, 0, 1, 0);
        send(x, 0, 0, 4);
        due("nothing is kept", x.pass(2), 1);
        send(x, 0, 0, 4);
        x.pass(1);
        x.turn(0, 2, 0);
        x.pass(1);
        send(x, 0, 0, 12);
        due("a cell too many", x.pass(3), 0);
        dueCounts(x, 0, 0, 0, 3, 1, 2, 0);
    }

    private static void missedFrames() {
        part = "station, a full inbox";
        CellSwitch x = with(0, 0, 1);
        openFreely(x, 1, 1, 2);
        for (int i = 0; i < 4; i++) {
            send(x, 0, i, 1);
            due("pass", x.pass(1), 1);
        }
        due("inbox", x.inbox(1), 4);
        send(x, 0, 4, 1);
        due("missed", x.pass(1), 0);
        send(x, 1, 4, 1);
        due("elsewhere not", x.pass(1), 1);
        send(x, 0, 5, 1);
        x.turn(0, 3, 0);
        due("bad, not missed", x.pass(1), 0);
        dueCounts(x, 0, 0, 0, 0, 5, 1, 1);
        due("take", x.take(1), 1);
        send(x, 0, 6, 1);
        due("room again", x.pass(1), 1);
        for (int b : new int[] {1, 2, 3, 6}) {
            due("byte", x.byteOf(1, 0), b);
            due("take", x.take(1), 1);
        }
    }

    // Promise 9 and the lines

    private static void turnRefuses() {
        part = "promise 9, refusals";
        CellSwitch x = with(0, 0, 1);
        due("ahead", x.turn(0, 2, 0), 0);
        for (int s : NO_STATION) {
            due("turn station " + s, x.turn(s, 0, 0), BAD);
        }
        for (int kind : new int[] {-1, 4, Integer.MIN_VALUE, Integer.MAX_VALUE}) {
            due("turn kind " + kind, x.turn(0, kind, 0), BAD);
        }
        send(x, 0, 1, 1);
        due("what was ahead stays", x.pass(1), 0);
        due("lost", x.counted(LOST), 1);
        for (int s = 0; s < 4; s++) {
            for (int kind = 0; kind < 4; kind++) {
                due("any which", x.turn(s, kind, Integer.MIN_VALUE + kind), 0);
                due("any which", x.turn(s, kind, Integer.MAX_VALUE - s), 0);
            }
        }
    }

    private static void turnOneOfHead() {
        part = "promise 9, one bit of the head";
        CellSwitch x = with(0, 2, 1);
        x.turn(2, 1, 5);
        due("turn alone changes no state", x.wary(2), 0);
        send(x, 0, 1, 1);
        due("trusting: it goes on", x.pass(1), 1);
        due("wary", x.wary(2), 1);
        x.turn(2, 1, 5);
        due("ticks without a cell", x.pass(3), 0);
        send(x, 0, 1, 1);
        due("wary: it is lost", x.pass(1), 0);
        due("lost", x.counted(LOST), 1);
        due("wary still", x.wary(2), 1);
        due("ticks without a cell", x.pass(3), 0);
        due("wary still", x.wary(2), 1);
        send(x, 0, 1, 1);
        due("none turned", x.pass(1), 1);
        due("trusting", x.wary(2), 0);
        x.turn(2, 1, 5);
        send(x, 0, 1, 1);
        due("it goes on again", x.pass(1), 1);
        dueCounts(x, 0, 0, 0, 1, 3, 0, 0);
    }

    private static void turnTwoOfHead() {
        part = "promise 9, two bits of the head";
        CellSwitch x = with(0, 2, 1);
        for (int i = 1; i <= 2; i++) {
            x.turn(2, 2, 5);
            send(x, 0, 1, 1);
            due("lost", x.pass(1), 0);
            due("counted lost", x.counted(LOST), i);
            due("wary", x.wary(2), 1);
            due("sent all the same", x.waiting(0), 0);
        }
        x.turn(2, 1, 5);
        send(x, 0, 1, 1);
        due("one, when wary", x.pass(1), 0);
        dueCounts(x, 0, 0, 0, 3, 0, 0, 0);
    }

    private static void turnContent() {
        part = "promise 9, one bit of the content";
        CellSwitch x = with(0, 2, 1);
        for (int at = 0; at < 4; at++) {
            send(x, 0, 1, 27);
            x.turn(2, 1, 0);
            if (at > 0) {
                x.pass(at);
            }
            x.turn(2, 3, 9);
            due("bad", x.pass(4 - at), 0);
            due("trusting, its head is whole", x.wary(2), 0);
            due("counted bad", x.counted(SPOILED), at + 1);
        }
        send(x, 0, 1, 27);
        due("good", x.pass(4), 1);
        dueCounts(x, 0, 0, 0, 0, 1, 4, 0);
        x.turn(2, 1, 0);
        send(x, 0, 1, 1);
        due("good", x.pass(1), 1);
        due("wary", x.wary(2), 1);
        x.turn(2, 3, 0);
        send(x, 0, 1, 1);
        due("bad", x.pass(1), 0);
        due("trusting again", x.wary(2), 0);
    }

    private static void turnReplaces() {
        part = "promise 9, in place of what was ahead";
        CellSwitch x = with(0, 0, 1);
        for (int kind = 1; kind < 4; kind++) {
            x.turn(0, kind, 0);
            x.turn(0, 0, 0);
            send(x, 0, 1, 1);
            due("none ahead", x.pass(1), 1);
            due("trusting", x.wary(0), 0);
        }
        x.turn(0, 2, 0);
        x.turn(0, 3, 0);
        send(x, 0, 1, 1);
        due("content in place of head", x.pass(1), 0);
        x.turn(0, 3, 0);
        x.turn(0, 1, 0);
        send(x, 0, 1, 1);
        due("head in place of content", x.pass(1), 1);
        x.turn(1, 2, 0);
        send(x, 0, 1, 1);
        x.take(1);
        due("of another station", x.pass(1), 1);
        dueCounts(x, 0, 0, 0, 0, 5, 1, 0);
    }

    private static void lostIsNotDropped() {
        part = "lines, a lost cell";
        CellSwitch x = new CellSwitch();
        due("open", x.open(0, ends(0, 1), 8, 0), 0);
        x.turn(0, 2, 0);
        send(x, 0, 1, 1);
        due("lost", x.pass(1), 0);
        send(x, 0, 1, 1);
        due("DUE was not looked at", x.pass(1), 1);
        send(x, 0, 1, 1);
        x.turn(0, 2, 0);
        due("lost, not early", x.pass(1), 0);
        dueCounts(x, 0, 0, 0, 2, 1, 0, 0);
        openFreely(x, 1, 2, 3);
        x.turn(2, 2, 0);
        send(x, 1, 1, 27);
        due("the first cell is lost", x.pass(4), 0);
        dueCounts(x, 0, 0, 0, 3, 1, 1, 0);
    }

    private static void droppedCellShowsItsHead() {
        part = "lines, the state before the switch drops";
        CellSwitch x = new CellSwitch();
        due("open", x.open(0, ends(0, 1), 8, 0), 0);
        send(x, 0, 1, 1);
        due("pass", x.pass(1), 1);
        send(x, 0, 1, 1);
        x.turn(0, 1, 0);
        due("early", x.pass(1), 0);
        due("wary", x.wary(0), 1);
        send(x, 0, 1, 1);
        due("early", x.pass(1), 0);
        due("trusting", x.wary(0), 0);
        due("counted early", x.counted(EARLY), 2);
    }

    // Promises 10 to 17

    private static void timeGoesOn() {
        part = "promise 10";
        CellSwitch x = new CellSwitch();
        int total = 0;
        for (int ticks : new int[] {1, 0, 7, 200, 33}) {
            x.pass(ticks);
            total += ticks;
            due("time", x.time(), total);
            due("asked again", x.time(), total);
        }
        x.pass(201);
        due("after a refusal", x.time(), total);
    }

    private static void stationQuestionsRefuse() {
        part = "promises 11 to 17, refusals";
        CellSwitch x = with(0, 0, 0);
        send(x, 0, 1, 1);
        x.pass(1);
        for (int s : NO_STATION) {
            due("queued " + s, x.queued(s), BAD);
            due("inbox " + s, x.inbox(s), BAD);
            due("first " + s, x.first(s), BAD);
            due("byteOf " + s, x.byteOf(s, 0), BAD);
            due("byteOf " + s, x.byteOf(s, -1), BAD);
            due("take " + s, x.take(s), BAD);
            due("wary " + s, x.wary(s), BAD);
        }
        for (int what : new int[] {-1, 7, Integer.MIN_VALUE, Integer.MAX_VALUE}) {
            due("counted " + what, x.counted(what), BAD);
        }
        due("inbox", x.inbox(0), 1);
    }

    private static void inboxQuestions() {
        part = "promises 12 to 15";
        CellSwitch x = with(6, 1, 3);
        openFreely(x, 7, 2, 3);
        due("none", x.first(3), NONE);
        due("none", x.take(3), NONE);
        due("none", x.byteOf(3, 0), NONE);
        send(x, 6, 100, 27);
        send(x, 7, 200, 3);
        due("pass", x.pass(10), 2);
        for (int again = 0; again < 2; again++) {
            due("inbox", x.inbox(3), 2);
            due("first", x.first(3), 227);
            due("byte 0", x.byteOf(3, 0), 200);
            due("byte 2", x.byteOf(3, 2), 202);
            due("byte 3", x.byteOf(3, 3), NONE);
            due("byte -1", x.byteOf(3, -1), NONE);
            due("byte", x.byteOf(3, Integer.MAX_VALUE), NONE);
            due("byte", x.byteOf(3, Integer.MIN_VALUE), NONE);
        }
        due("take", x.take(3), 227);
        due("inbox", x.inbox(3), 1);
        due("first", x.first(3), 219);
        due("byte 26", x.byteOf(3, 26), 126);
        due("byte 27", x.byteOf(3, 27), NONE);
        due("take", x.take(3), 219);
        due("inbox", x.inbox(3), 0);
        due("take", x.take(3), NONE);
        due("byteOf", x.byteOf(3, 0), NONE);
        due("counted", x.counted(GOOD), 2);
    }

    private static void inboxOutlivesCircuit() {
        part = "promises 13 and 14, the circuit closed";
        CellSwitch x = with(6, 1, 3);
        send(x, 6, 100, 5);
        due("pass", x.pass(2), 1);
        due("close", x.close(6), 0);
        openFreely(x, 6, 3, 1);
        send(x, 6, 200, 9);
        due("pass", x.pass(2), 1);
        due("first", x.first(3), 197);
        due("byte", x.byteOf(3, 4), 104);
        due("first", x.first(1), 201);
    }

    /** A frame of the first calls is whole after as many later frames as the 512 calls allow. */
    private static void manyFrames() {
        part = "512 calls";
        CellSwitch x = with(0, 0, 1);
        send(x, 0, 17, 27);
        due("pass", x.pass(4), 1);
        int calls = 4;
        for (int c = 1; c < 8; c++) {
            openFreely(x, c, c % 4, 2 + c % 2);
            calls++;
        }
        boolean more = true;
        for (int i = 0; more; i++) {
            send(x, 1 + i % 7, i, 1 + i % 27);
            calls += 2;
            if (i % 7 == 6) {
                x.pass(20);
                calls++;
            }
            more = calls < 512 - 28 - 4;
        }
        for (int i = 0; i < 27; i++) {
            due("byte", x.byteOf(1, i), 17 + i);
        }
        due("take", x.take(1), 27);
    }

    /** The example of README.md, call by call, so that what it tells stays true. */
    private static void readmeExample() {
        part = "README.md";
        CellSwitch net = new CellSwitch();
        due("open", net.open(2, 4 * 0 + 3, 1, 0), 0);
        due("fill", net.fill(65), 1);
        due("run", net.run(66, 1, 4), 5);
        due("post", net.post(2), 2);
        due("pass", net.pass(2), 1);
        due("first", net.first(3), 69);
        due("byteOf", net.byteOf(3, 0), 65);
        due("take", net.take(3), 69);
        due("take again", net.take(3), NONE);
        due("turn", net.turn(0, 3, 0), 0);
        due("run after post", net.run(1, 1, 3), 3);
        due("post of three bytes", net.post(2), 1);
        due("pass of a bad frame", net.pass(1), 0);
        due("counted", net.counted(5), 1);
        due("close", net.close(2), 0);
    }

    public static void main(String[] args) {
        newObject();
        objectsAreApart();
        theFace();
        openRefuses();
        openEnds();
        openBeginsAnew();
        closeRefuses();
        closeBusy();
        closeForgetsWaiting();
        closeForgetsKept();
        closeForgetsDropped();
        waitingFrames();
        fillBuffer();
        runBytes();
        postRefuses();
        postCells();
        passRefuses();
        passCountsAllInboxes();
        stationsTakeTurns();
        turnsAreOfEachStation();
        cellsInterleave();
        rateWithoutTolerance();
        rateWithTolerance();
        widestRate();
        brokenFrame();
        lastCellGoesOn();
        fullQueue();
        queueInOrder();
        framesRunTogether();
        missedFrames();
        turnRefuses();
        turnOneOfHead();
        turnTwoOfHead();
        turnContent();
        turnReplaces();
        lostIsNotDropped();
        droppedCellShowsItsHead();
        timeGoesOn();
        stationQuestionsRefuse();
        inboxQuestions();
        inboxOutlivesCircuit();
        manyFrames();
        readmeExample();
        System.out.println(wrong == 0 ? "all answers are as due" : wrong + " answers are not as due");
        if (wrong != 0) {
            System.exit(1);
        }
    }
}
