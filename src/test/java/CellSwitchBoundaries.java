/** Each sentence of the document that names a boundary case, with a test of its own on new objects. */
public final class CellSwitchBoundaries {
    private static final int BAD = -1;
    private static final int NONE = -2;
    private static final int FULL = -3;
    private static final int BUSY = -4;

    private static final int LEAST = Integer.MIN_VALUE;
    private static final int MOST = Integer.MAX_VALUE;

    private static final int EARLY = 0;
    private static final int BROKEN = 1;
    private static final int CROWDED = 2;
    private static final int LOST = 3;
    private static final int SPOILED = 5;
    private static final int MISSED = 6;

    private static final int WIDE_TOLERANCE = 40;

    private static int sentences = 0;
    private static int wrong = 0;
    private static String part = "";

    /** What is done with a new object to see whether a sentence holds. */
    private interface Trial {
        void on(CellSwitch x);
    }

    /** A question or call with one argument. */
    private interface Call {
        int with(int argument);
    }

    private static void sentence(String where, String words, Trial trial) {
        part = where + " '" + words + "'";
        sentences++;
        try {
            trial.on(new CellSwitch());
        } catch (RuntimeException thrown) {
            wrong++;
            System.out.println(part + ": a call threw " + thrown);
        }
    }

    private static void due(String what, int got, int want) {
        if (got != want) {
            wrong++;
            System.out.println(part + ": " + what + " answered " + got + ", due is " + want);
        }
    }

    private static int[] outside(int least, int greatest) {
        return new int[] {least - 1, greatest + 1, least - 100, greatest + 100, LEAST, MOST};
    }

    /** The call is refused as BAD outside of least .. greatest, and answers something else within. */
    private static void badOutside(int least, int greatest, Call call) {
        for (int value : outside(least, greatest)) {
            due("with " + value, call.with(value), BAD);
        }
        for (int value = least; value <= greatest; value++) {
            due("with " + value + " is BAD", call.with(value) == BAD ? 1 : 0, 0);
        }
    }

    private static void open(CellSwitch x, int c, int from, int to, int gap, int tolerance) {
        due("open " + c, x.open(c, 4 * from + to, gap, tolerance), 0);
    }

    /** Opens a circuit at a rate that makes none of the few cells of a trial early. */
    private static void openWide(CellSwitch x, int c, int from, int to) {
        open(x, c, from, to, 1, WIDE_TOLERANCE);
    }

    private static void post(CellSwitch x, int c, int seed, int bytes) {
        due("run before post", x.run(seed, 1, bytes), bytes);
        due("post " + c, x.post(c), (bytes + 12) / 8);
    }

    /** Sends a frame of one cell in one tick, and takes it if it comes; answers whether it came. */
    private static int oneCell(CellSwitch x, int c, int to) {
        post(x, c, 1, 1);
        int came = x.pass(1);
        if (came == 1) {
            due("taken", x.take(to), 32 * c + 1);
        }
        return came;
    }

    /** Lets ticks go by until the next one makes this time. */
    private static void waitBefore(CellSwitch x, int time) {
        due("ticks between", x.pass(time - 1 - x.time()), 0);
    }

    private static void counts(CellSwitch x, int... want) {
        for (int what = 0; what < 7; what++) {
            due("counted(" + what + ")", x.counted(what), want[what]);
        }
    }

    /**
     * Circuits 0, 1 and 2 fill the queue to station 0: after three ticks it has five cells, and
     * in the fourth one the cell of circuit 0 is the sixth before station 3 sends.
     */
    private static void crowd(CellSwitch x) {
        for (int s = 0; s < 3; s++) {
            openWide(x, s, s, 0);
            post(x, s, 60 * s, 27);
        }
        due("crowding", x.pass(3), 0);
        due("queued", x.queued(0), 5);
        due("crowded", x.counted(CROWDED), 1);
    }

    // Promise 1

    private static void newObject() {
        sentence("promise 1", "None is open at first", x -> {
            x.fill(1);
            for (int c = 0; c < 8; c++) {
                due("waiting " + c, x.waiting(c), NONE);
                due("close " + c, x.close(c), NONE);
                due("post " + c, x.post(c), NONE);
            }
        });
        sentence("promise 1", "TIME is 0 at first", x -> due("time", x.time(), 0));
        sentence("promise 1", "a BUFFER of bytes 0 .. 255, empty at first", x -> {
            due("bytes", x.run(9, 9, 0), 0);
            openWide(x, 0, 0, 0);
            due("post", x.post(0), NONE);
            due("first byte", x.fill(9), 1);
        });
        sentence("promise 1", "after 7 at first, so that 0 comes first", x -> {
            for (int s = 0; s < 4; s++) {
                CellSwitch y = new CellSwitch();
                for (int c = 7; c >= 0; c--) {
                    openWide(y, c, s, 3);
                    post(y, c, 1, 1);
                }
                for (int c = 0; c < 8; c++) {
                    due("tick", y.pass(1), 1);
                    due("from station " + s, y.take(3), 32 * c + 1);
                }
            }
        });
        sentence("promise 1", "a STATE for each station, at first TRUSTING", x -> {
            for (int s = 0; s < 4; s++) {
                due("wary", x.wary(s), 0);
                openWide(x, s, s, 0);
                due("turn", x.turn(s, 1, 0), 0);
                due("goes on", oneCell(x, s, 0), 1);
            }
        });
        sentence("promise 1", "no bits are turned ahead at first", x -> {
            for (int s = 0; s < 4; s++) {
                openWide(x, s, s, 0);
                due("good", oneCell(x, s, 0), 1);
                due("wary", x.wary(s), 0);
            }
            counts(x, 0, 0, 0, 0, 4, 0, 0);
        });
        sentence("promise 1", "queues and inboxes are empty and nothing is counted at first", x -> {
            for (int s = 0; s < 4; s++) {
                due("queued", x.queued(s), 0);
                due("inbox", x.inbox(s), 0);
                due("first", x.first(s), NONE);
                due("byteOf", x.byteOf(s, 0), NONE);
                due("take", x.take(s), NONE);
            }
            counts(x, 0, 0, 0, 0, 0, 0, 0);
        });
    }

    // Promise 2

    private static void openTests() {
        sentence("promise 2", "c is not good .. BAD", x -> badOutside(0, 7, c -> x.open(c, 0, 1, 0)));
        sentence("promise 2", "ends not 0 .. 15 .. BAD", x -> {
            for (int ends : outside(0, 15)) {
                due("ends " + ends, x.open(0, ends, 1, 0), BAD);
            }
            for (int ends = 0; ends <= 15; ends++) {
                due("ends " + ends, x.open(0, ends, 1, 0), 0);
                due("close", x.close(0), 0);
            }
        });
        sentence("promise 2", "gap not 1 .. 8 .. BAD", x -> {
            for (int gap : outside(1, 8)) {
                due("gap " + gap, x.open(0, 0, gap, 0), BAD);
            }
            for (int gap = 1; gap <= 8; gap++) {
                due("gap " + gap, x.open(0, 0, gap, 0), 0);
                due("close", x.close(0), 0);
            }
        });
        sentence("promise 2", "tolerance not 0 .. 40: BAD", x -> {
            for (int tolerance : outside(0, 40)) {
                due("tolerance " + tolerance, x.open(0, 0, 1, tolerance), BAD);
            }
            for (int tolerance = 0; tolerance <= 40; tolerance++) {
                due("tolerance " + tolerance, x.open(0, 0, 1, tolerance), 0);
                due("close", x.close(0), 0);
            }
        });
        sentence("promise 2", "it is open: BUSY", x -> {
            for (int c = 0; c < 8; c++) {
                openWide(x, c, 0, 1);
                due("again", x.open(c, 1, 1, 40), BUSY);
                due("otherwise", x.open(c, 15, 8, 0), BUSY);
            }
            due("close", x.close(4), 0);
            due("no more open", x.open(4, 0, 1, 0), 0);
        });
        sentence("promise 2", "BAD is tested before BUSY", x -> {
            openWide(x, 7, 0, 1);
            due("ends", x.open(7, 16, 1, 0), BAD);
            due("ends", x.open(7, -1, 1, 0), BAD);
            due("gap", x.open(7, 0, 0, 0), BAD);
            due("gap", x.open(7, 0, 9, 0), BAD);
            due("tolerance", x.open(7, 0, 1, -1), BAD);
            due("tolerance", x.open(7, 0, 1, 41), BAD);
        });
        sentence("promise 2", "ends is 4 * from + to", x -> {
            for (int ends = 0; ends <= 15; ends++) {
                CellSwitch y = new CellSwitch();
                due("open", y.open(3, ends, 1, 0), 0);
                due("turn", y.turn(ends / 4, 1, 0), 0);
                post(y, 3, 1, 1);
                due("pass", y.pass(1), 1);
                for (int s = 0; s < 4; s++) {
                    due("from " + s, y.wary(s), s == ends / 4 ? 1 : 0);
                    due("to " + s, y.inbox(s), s == ends % 4 ? 1 : 0);
                }
            }
        });
        sentence("terms", "from a station to a station (also the same)", x -> {
            for (int s = 0; s < 4; s++) {
                openWide(x, s, s, s);
                due("comes", oneCell(x, s, s), 1);
            }
        });
        sentence("terms", "a DUE time, 0 when it is opened", x -> {
            open(x, 0, 0, 1, 8, 0);
            due("first", oneCell(x, 0, 1), 1);
            due("close", x.close(0), 0);
            open(x, 0, 0, 1, 8, 0);
            due("first again", oneCell(x, 0, 1), 1);
            due("too early", oneCell(x, 0, 1), 0);
        });
    }

    // Promise 3

    private static void closeRefusals() {
        sentence("promise 3", "c is not good: BAD", x -> badOutside(0, 7, x::close));
        sentence("promise 3", "it is not open: NONE", x -> {
            for (int c = 0; c < 8; c++) {
                due("never open", x.close(c), NONE);
                openWide(x, c, 0, 0);
                due("open", x.close(c), 0);
                due("closed", x.close(c), NONE);
            }
        });
        sentence("promise 3", "a cell of it is in a queue: BUSY, and it is the last of three", x -> {
            for (int s = 0; s < 4; s++) {
                openWide(x, s, s, 2);
                post(x, s, s, 1);
            }
            for (int gone = 0; gone < 4; gone++) {
                due("pass", x.pass(1), 1);
                due("its cell has come", x.close(gone), 0);
                for (int s = gone + 1; s < 4; s++) {
                    due("its cell is queued", x.close(s), BUSY);
                }
            }
            due("all came", x.inbox(2), 4);
        });
        sentence("promise 3", "a cell of it is in a queue: BUSY, while frames of it wait", x -> {
            openWide(x, 0, 0, 2);
            openWide(x, 1, 1, 2);
            post(x, 0, 0, 1);
            post(x, 1, 5, 4);
            post(x, 1, 6, 4);
            due("pass", x.pass(1), 1);
            due("queued", x.queued(2), 1);
            due("close", x.close(1), BUSY);
            due("frames wait still", x.waiting(1), 2);
            due("all come", x.pass(4), 2);
        });
        sentence("promise 3", "a cell of another circuit in the queue is no reason for BUSY", x -> {
            crowd(x);
            openWide(x, 7, 3, 0);
            due("close", x.close(7), 0);
            due("close one in the queue", x.close(0), BUSY);
        });
        sentence("promise 3", "cells that are lost or dropped are no reason for BUSY", x -> {
            open(x, 0, 0, 1, 8, 0);
            x.turn(0, 2, 0);
            due("lost", oneCell(x, 0, 1), 0);
            due("close", x.close(0), 0);
            open(x, 0, 0, 1, 8, 0);
            due("comes", oneCell(x, 0, 1), 1);
            due("dropped", oneCell(x, 0, 1), 0);
            due("close", x.close(0), 0);
        });
    }

    private static void closeTests() {
        sentence("promise 3", "answers how many frames were waiting", x -> {
            for (int frames = 0; frames <= 2; frames++) {
                openWide(x, 5, 0, 1);
                for (int i = 0; i < frames; i++) {
                    post(x, 5, 1, 4);
                }
                due("close", x.close(5), frames);
            }
            openWide(x, 5, 0, 1);
            post(x, 5, 1, 27);
            due("pass", x.pass(3), 0);
            due("with its last cell not sent", x.close(5), 1);
            openWide(x, 5, 0, 1);
            post(x, 5, 1, 27);
            due("pass", x.pass(4), 1);
            due("with its last cell sent", x.close(5), 0);
        });
        sentence("promise 3", "frames that wait .. of it are gone", x -> {
            openWide(x, 5, 0, 1);
            post(x, 5, 1, 4);
            post(x, 5, 1, 4);
            due("close", x.close(5), 2);
            due("nothing is sent", x.pass(10), 0);
            openWide(x, 5, 0, 1);
            due("waiting", x.waiting(5), 0);
            due("nothing is sent", x.pass(10), 0);
            counts(x, 0, 0, 0, 0, 0, 0, 0);
        });
        sentence("promise 3", "a frame of which some cells are sent is gone whole", x -> {
            openWide(x, 5, 0, 1);
            post(x, 5, 1, 20);
            due("pass", x.pass(3), 0);
            due("close", x.close(5), 1);
            openWide(x, 5, 0, 1);
            post(x, 5, 9, 20);
            due("three of four", x.pass(3), 0);
            due("all four", x.pass(1), 1);
            due("byte", x.byteOf(1, 0), 9);
        });
        sentence("promise 3", "cells that a station keeps of it are gone", x -> {
            openWide(x, 5, 0, 1);
            post(x, 5, 1, 27);
            due("pass", x.pass(1), 0);
            x.turn(0, 3, 0);
            due("pass", x.pass(1), 0);
            due("close", x.close(5), 1);
            openWide(x, 5, 2, 1);
            due("the next is good", oneCell(x, 5, 1), 1);
            counts(x, 0, 0, 0, 0, 1, 0, 0);
        });
        sentence("promise 3", "cells that a station keeps of another circuit stay", x -> {
            openWide(x, 5, 0, 1);
            openWide(x, 6, 2, 1);
            post(x, 6, 1, 4);
            due("pass", x.pass(1), 0);
            due("close", x.close(5), 0);
            due("good", x.pass(1), 1);
        });
        sentence("promise 3", "that a cell was dropped is gone with its frame", x -> {
            open(x, 5, 0, 1, 8, 0);
            post(x, 5, 1, 20);
            due("pass", x.pass(2), 0);
            due("early", x.counted(EARLY), 1);
            due("close", x.close(5), 1);
            openWide(x, 5, 0, 1);
            post(x, 5, 1, 20);
            due("good", x.pass(4), 1);
            due("broken", x.counted(BROKEN), 0);
        });
        sentence("promise 3", "frames in an inbox stay", x -> {
            openWide(x, 7, 0, 1);
            post(x, 7, 3, 27);
            due("pass", x.pass(4), 1);
            due("close", x.close(7), 0);
            due("first", x.first(1), 251);
            due("byte", x.byteOf(1, 26), 29);
        });
        sentence("terms", "the circuit from which it sent last, also when that one is closed", x -> {
            for (int c = 0; c < 3; c++) {
                openWide(x, c, 0, 1);
            }
            due("1 sends", oneCell(x, 1, 1), 1);
            due("close", x.close(1), 0);
            post(x, 0, 1, 1);
            post(x, 2, 1, 1);
            due("pass", x.pass(2), 2);
            due("2 first", x.take(1), 65);
            due("then 0", x.take(1), 1);
        });
    }

    // Promise 4

    private static void waitingTests() {
        sentence("promise 4", "c is not good: BAD", x -> badOutside(0, 7, x::waiting));
        sentence("promise 4", "it is not open: NONE", x -> {
            for (int c = 0; c < 8; c++) {
                due("never open", x.waiting(c), NONE);
                openWide(x, c, 0, 0);
                due("open", x.waiting(c), 0);
                due("close", x.close(c), 0);
                due("closed", x.waiting(c), NONE);
            }
        });
        sentence("promise 4", "how many frames wait in a circuit: none, one, two", x -> {
            openWide(x, 6, 0, 0);
            openWide(x, 7, 0, 0);
            for (int frames = 1; frames <= 2; frames++) {
                post(x, 7, 1, 1);
                due("this", x.waiting(7), frames);
                due("the other", x.waiting(6), 0);
            }
        });
        sentence("terms", "When the last cell of a frame is sent, the frame waits no more", x -> {
            openWide(x, 0, 0, 1);
            post(x, 0, 1, 27);
            for (int sent = 1; sent <= 4; sent++) {
                due("pass", x.pass(1), sent == 4 ? 1 : 0);
                due("after " + sent, x.waiting(0), sent == 4 ? 0 : 1);
            }
        });
        sentence("terms", "the frame waits no more, also if its last cell is lost", x -> {
            openWide(x, 0, 0, 1);
            post(x, 0, 1, 4);
            due("pass", x.pass(1), 0);
            x.turn(0, 2, 0);
            due("pass", x.pass(1), 0);
            due("waiting", x.waiting(0), 0);
            counts(x, 0, 0, 0, 1, 0, 0, 0);
        });
        sentence("terms", "the frame waits no more, also if its last cell is dropped", x -> {
            open(x, 0, 0, 1, 8, 0);
            post(x, 0, 1, 4);
            due("pass", x.pass(2), 0);
            due("waiting", x.waiting(0), 0);
            counts(x, 1, 0, 0, 0, 0, 0, 0);
        });
        sentence("terms", "the cells of the first one that are not sent yet are its next cells", x -> {
            openWide(x, 0, 0, 1);
            post(x, 0, 1, 12);
            post(x, 0, 50, 1);
            due("two of the first", x.pass(2), 0);
            due("the third", x.pass(1), 1);
            due("first", x.take(1), 12);
            due("the second frame", x.pass(1), 1);
            due("first", x.first(1), 1);
            due("byte", x.byteOf(1, 0), 50);
        });
    }

    // Promises 5 and 6

    private static void fillTests() {
        sentence("promise 5", "b is not 0 .. 255: BAD", x -> {
            for (int b : outside(0, 255)) {
                due("fill " + b, x.fill(b), BAD);
            }
            due("0", x.fill(0), 1);
            due("255", x.fill(255), 2);
            openWide(x, 0, 0, 1);
            due("post", x.post(0), 1);
            due("pass", x.pass(1), 1);
            due("0", x.byteOf(1, 0), 0);
            due("255", x.byteOf(1, 1), 255);
        });
        sentence("promise 5", "it has 27: FULL", x -> {
            for (int i = 1; i <= 27; i++) {
                due("fill", x.fill(i), i);
            }
            due("28th", x.fill(28), FULL);
            due("and again", x.fill(0), FULL);
        });
        sentence("promise 5", "it has 27: FULL, when run filled it", x -> {
            due("run", x.run(0, 1, 26), 26);
            due("27th", x.fill(1), 27);
            due("28th", x.fill(1), FULL);
        });
        sentence("promise 5", "BAD is tested before FULL", x -> {
            due("run", x.run(0, 0, 27), 27);
            due("above", x.fill(256), BAD);
            due("below", x.fill(-1), BAD);
        });
        sentence("terms", "A FRAME has one to 27 bytes: of 27, each comes", x -> {
            openWide(x, 0, 0, 1);
            for (int i = 0; i < 27; i++) {
                due("fill", x.fill(255 - 9 * i), i + 1);
            }
            due("post", x.post(0), 4);
            due("pass", x.pass(4), 1);
            for (int i = 0; i < 27; i++) {
                due("byte " + i, x.byteOf(1, i), 255 - 9 * i);
            }
        });
    }

    private static void runTests() {
        sentence("promise 6", "many is below 0: BAD", x -> {
            for (int many : new int[] {-1, -27, LEAST}) {
                due("many " + many, x.run(1, 1, many), BAD);
            }
        });
        sentence("promise 6", "many 0 appends nothing", x -> {
            due("empty", x.run(1, 1, 0), 0);
            due("13", x.run(1, 1, 13), 13);
            due("13 still", x.run(1, 1, 0), 13);
            due("27", x.run(1, 1, 14), 27);
            due("27 still", x.run(1, 1, 0), 27);
        });
        sentence("promise 6", "there is no room for so many: FULL", x -> {
            for (int has = 0; has <= 27; has++) {
                CellSwitch y = new CellSwitch();
                due("has", y.run(0, 0, has), has);
                due("one too many", y.run(0, 0, 28 - has), FULL);
                due("27 more than there is room for", y.run(0, 0, 54 - has), FULL);
                due("most", y.run(0, 0, MOST), FULL);
                due("nearly most", y.run(0, 0, MOST - has), FULL);
                due("none was appended", y.run(0, 0, 0), has);
                due("just so many", y.run(0, 0, 27 - has), 27);
            }
        });
        sentence("promise 6", "BAD is tested before FULL", x -> {
            due("run", x.run(0, 0, 27), 27);
            due("below 0", x.run(0, 0, -1), BAD);
            due("least", x.run(0, 0, LEAST), BAD);
        });
        sentence("promise 6", "each of them seed + step * i .. its lowest eight bits", x -> {
            int[][] pairs = {{0, 0}, {255, 1}, {256, 255}, {-1, -1}, {LEAST, MOST}, {MOST, LEAST},
                {MOST, MOST}, {0x12345678, 0x7FFFFFF1}, {-256, 128}};
            for (int[] pair : pairs) {
                CellSwitch y = new CellSwitch();
                openWide(y, 0, 0, 1);
                due("run", y.run(pair[0], pair[1], 27), 27);
                due("post", y.post(0), 4);
                due("pass", y.pass(4), 1);
                for (int i = 0; i < 27; i++) {
                    long exact = (long) pair[0] + (long) pair[1] * i;
                    due("byte " + i, y.byteOf(1, i), (int) (((exact % 256) + 256) % 256));
                }
            }
        });
        sentence("promise 6", "i = 0, 1, ..: it begins with 0 in each call", x -> {
            openWide(x, 0, 0, 1);
            due("run", x.run(10, 3, 2), 2);
            due("run", x.run(100, 5, 1), 3);
            due("post", x.post(0), 1);
            due("pass", x.pass(1), 1);
            due("byte 0", x.byteOf(1, 0), 10);
            due("byte 1", x.byteOf(1, 1), 13);
            due("byte 2", x.byteOf(1, 2), 100);
        });
    }

    // Promise 7

    private static void postTests() {
        sentence("promise 7", "c is not good: BAD", x -> {
            due("fill", x.fill(1), 1);
            badOutside(0, 7, x::post);
        });
        sentence("promise 7", "c is not good: BAD, before the buffer is looked at", x -> badOutside(0, 7, x::post));
        sentence("promise 7", "it is not open: NONE", x -> {
            due("fill", x.fill(1), 1);
            openWide(x, 0, 0, 0);
            for (int c = 1; c < 8; c++) {
                due("never open", x.post(c), NONE);
            }
            due("close", x.close(0), 0);
            due("closed", x.post(0), NONE);
        });
        sentence("promise 7", "the buffer is empty: NONE", x -> {
            openWide(x, 0, 0, 0);
            due("at first", x.post(0), NONE);
            due("waiting", x.waiting(0), 0);
            due("fill", x.fill(1), 1);
            due("post", x.post(0), 1);
            due("after a post", x.post(0), NONE);
            due("waiting", x.waiting(0), 1);
        });
        sentence("promise 7", "two frames wait: FULL", x -> {
            openWide(x, 0, 0, 1);
            openWide(x, 1, 0, 1);
            post(x, 0, 1, 4);
            post(x, 0, 1, 4);
            due("fill", x.fill(1), 1);
            due("third", x.post(0), FULL);
            due("waiting", x.waiting(0), 2);
            due("room in the other", x.post(1), 1);
        });
        sentence("promise 7", "two frames wait: FULL, until the last cell of the first is sent", x -> {
            openWide(x, 0, 0, 1);
            post(x, 0, 1, 4);
            post(x, 0, 1, 4);
            due("fill", x.fill(1), 1);
            due("one of two cells", x.pass(1), 0);
            due("third", x.post(0), FULL);
            due("two of two cells", x.pass(1), 1);
            due("third", x.post(0), 1);
        });
        sentence("promise 7", "the empty buffer is tested before FULL", x -> {
            openWide(x, 0, 0, 1);
            post(x, 0, 1, 1);
            post(x, 0, 1, 1);
            due("post", x.post(0), NONE);
        });
        sentence("promise 7", "a frame that waits last in a circuit", x -> {
            openWide(x, 0, 0, 1);
            post(x, 0, 30, 2);
            post(x, 0, 40, 3);
            due("pass", x.pass(1), 1);
            post(x, 0, 50, 1);
            due("pass", x.pass(2), 2);
            for (int bytes : new int[] {2, 3, 1}) {
                due("in order", x.take(1), bytes);
            }
        });
        sentence("promise 7", "and is empty then", x -> {
            openWide(x, 0, 0, 1);
            post(x, 0, 30, 27);
            due("bytes", x.run(0, 0, 0), 0);
            due("room for 27", x.run(0, 0, 27), 27);
        });
        sentence("terms", "as many CELLS as (its number of bytes + 12) / 8 (whole quotient)", x -> {
            int[] cells = {0, 1, 1, 1, 2, 2, 2, 2, 2, 2, 2, 2, 3, 3, 3, 3, 3, 3, 3, 3, 4, 4, 4, 4, 4, 4, 4, 4};
            for (int bytes = 1; bytes <= 27; bytes++) {
                CellSwitch y = new CellSwitch();
                openWide(y, 0, 0, 1);
                due("run", y.run(1, 1, bytes), bytes);
                due("cells of " + bytes, y.post(0), cells[bytes]);
                due("all but the last", y.pass(cells[bytes] - 1), 0);
                due("the last", y.pass(1), 1);
            }
        });
    }

    // Promise 8 and the tick

    private static void passTests() {
        sentence("promise 8", "ticks is not 0 .. 200: BAD", x -> badOutside(0, 200, x::pass));
        sentence("promise 8", "0 ticks: nothing goes by", x -> {
            openWide(x, 0, 0, 1);
            post(x, 0, 1, 1);
            due("pass", x.pass(0), 0);
            due("time", x.time(), 0);
            due("waiting", x.waiting(0), 1);
        });
        sentence("promise 8", "200 ticks go by", x -> {
            due("pass", x.pass(200), 0);
            due("time", x.time(), 200);
            due("pass", x.pass(200), 0);
            due("time", x.time(), 400);
        });
        sentence("promise 8", "how many good frames came into inboxes in them, of all stations", x -> {
            for (int c = 0; c < 8; c++) {
                openWide(x, c, c % 4, (c + 1) % 4);
                post(x, c, c, 1);
                post(x, c, c, 1);
            }
            due("as many as there is room for", x.pass(200), 16);
            due("no more", x.pass(200), 0);
        });
        sentence("promise 8", "bad frames and missed ones are not among them", x -> {
            openWide(x, 0, 0, 1);
            x.turn(0, 3, 0);
            due("bad", oneCell(x, 0, 1), 0);
            for (int i = 0; i < 5; i++) {
                post(x, 0, 1, 1);
                due("frame " + i, x.pass(1), i < 4 ? 1 : 0);
            }
            counts(x, 0, 0, 0, 0, 4, 1, 1);
        });
    }

    private static void sendingTests() {
        sentence("terms", "every station .. sends a cell: one of each in a tick", x -> {
            for (int s = 0; s < 4; s++) {
                openWide(x, s, s, s);
                openWide(x, s + 4, s, s);
                post(x, s, s, 1);
                post(x, s + 4, s, 1);
            }
            due("tick", x.pass(1), 4);
            for (int s = 0; s < 4; s++) {
                due("sent", x.waiting(s), 0);
                due("not yet sent", x.waiting(s + 4), 1);
            }
        });
        sentence("terms", "every station, 0 first: the cells queue in that order", x -> {
            for (int s = 0; s < 4; s++) {
                openWide(x, 7 - s, s, 2);
                post(x, 7 - s, s, 1);
            }
            due("ticks", x.pass(4), 4);
            for (int s = 0; s < 4; s++) {
                due("of station " + s, x.take(2), 32 * (7 - s) + 1);
            }
        });
        sentence("terms", "every station, 0 first: the last room in a queue is the first station's", x -> {
            crowd(x);
            openWide(x, 4, 3, 0);
            post(x, 4, 1, 1);
            due("tick", x.pass(1), 0);
            due("1, 2 and 3 find it full", x.counted(CROWDED), 4);
            due("rest", x.pass(5), 1);
            due("0 found room", x.first(0), 27);
        });
        sentence("terms", "going from 7 on to 0", x -> {
            openWide(x, 7, 2, 1);
            openWide(x, 0, 2, 1);
            openWide(x, 6, 2, 1);
            due("7 sends", oneCell(x, 7, 1), 1);
            post(x, 6, 1, 1);
            post(x, 7, 1, 1);
            post(x, 0, 1, 1);
            due("ticks", x.pass(3), 3);
            due("0", x.take(1), 1);
            due("6", x.take(1), 193);
            due("7", x.take(1), 225);
        });
        sentence("terms", "the first one after the circuit from which it sent last, for each pair", x -> {
            for (int last = 0; last < 8; last++) {
                for (int other = 0; other < 8; other++) {
                    if (other == last) {
                        continue;
                    }
                    CellSwitch y = new CellSwitch();
                    openWide(y, last, 3, 1);
                    openWide(y, other, 3, 1);
                    due("sends", oneCell(y, last, 1), 1);
                    post(y, last, 1, 1);
                    post(y, other, 1, 1);
                    due("tick", y.pass(1), 1);
                    due("the other after " + last, y.take(1), 32 * other + 1);
                    due("tick", y.pass(1), 1);
                    due("itself comes last", y.take(1), 32 * last + 1);
                }
            }
        });
        sentence("terms", "of the circuits from it that have one: those that have none are left out", x -> {
            for (int c = 0; c < 8; c++) {
                openWide(x, c, 0, 1);
            }
            for (int i = 0; i < 3; i++) {
                due("only 5 has one", oneCell(x, 5, 1), 1);
            }
        });
        sentence("terms", "of the circuits from it: those from another station are left out", x -> {
            for (int c = 0; c < 8; c++) {
                openWide(x, c, c == 5 ? 0 : 1, c == 5 ? 3 : 2);
                post(x, c, 1, 1);
            }
            due("tick", x.pass(1), 2);
            due("station 0 sent 5", x.first(3), 161);
            due("station 1 sent 0", x.first(2), 1);
        });
        sentence("terms", "from which it sent last: each station for itself", x -> {
            openWide(x, 1, 0, 2);
            openWide(x, 2, 0, 2);
            openWide(x, 5, 1, 3);
            openWide(x, 6, 1, 3);
            due("station 1 sends 5", oneCell(x, 5, 3), 1);
            for (int c : new int[] {1, 2, 5, 6}) {
                post(x, c, 1, 1);
            }
            due("tick", x.pass(1), 2);
            due("station 0 sends 1", x.first(2), 33);
            due("station 1 sends 6", x.first(3), 193);
        });
        sentence("terms", "sent last, also if the cell was lost or dropped", x -> {
            open(x, 0, 0, 1, 8, 0);
            openWide(x, 1, 0, 1);
            x.turn(0, 2, 0);
            due("0 is lost", oneCell(x, 0, 1), 0);
            post(x, 0, 1, 1);
            post(x, 1, 1, 1);
            due("ticks", x.pass(2), 2);
            due("1 first", x.take(1), 33);
            due("then 0", x.take(1), 1);
            due("0 is dropped", oneCell(x, 0, 1), 0);
            post(x, 0, 1, 1);
            post(x, 1, 1, 1);
            due("tick", x.pass(1), 1);
            due("1 first", x.take(1), 33);
        });
    }

    // DUE and the tolerance

    private static void dueTests() {
        sentence("terms", "If the time is less than DUE minus the circuit's TOLERANCE, the cell is too early", x -> {
            for (int gap = 1; gap <= 8; gap++) {
                for (int tolerance = 0; tolerance <= 40; tolerance++) {
                    for (int time = 2; time <= 10; time++) {
                        CellSwitch y = new CellSwitch();
                        open(y, 0, 0, 1, gap, tolerance);
                        due("at time 1", oneCell(y, 0, 1), 1);
                        waitBefore(y, time);
                        int came = time < 1 + gap - tolerance ? 0 : 1;
                        due("gap " + gap + ", tolerance " + tolerance + ", time " + time, oneCell(y, 0, 1), came);
                        due("early", y.counted(EARLY), 1 - came);
                    }
                }
            }
        });
        sentence("terms", "a cell is early at DUE - TOLERANCE - 1, and not at DUE - TOLERANCE, with tolerance 40", x -> {
            open(x, 0, 0, 1, 8, 40);
            for (int time = 1; time <= 6; time++) {
                due("time " + time, oneCell(x, 0, 1), 1);
            }
            // Six cells from time 1 on have made DUE 1 + 6 * 8 = 49.
            due("time 7", oneCell(x, 0, 1), 0);
            due("time 8", oneCell(x, 0, 1), 0);
            due("time 9", oneCell(x, 0, 1), 1);
            counts(x, 2, 0, 0, 0, 7, 0, 0);
        });
        sentence("terms", "the greater of the time and DUE: the time, if the cell is late", x -> {
            open(x, 0, 0, 1, 4, 0);
            due("time 1", oneCell(x, 0, 1), 1);
            waitBefore(x, 6);
            due("time 6, DUE 5", oneCell(x, 0, 1), 1);
            waitBefore(x, 9);
            due("time 9, DUE 10", oneCell(x, 0, 1), 0);
            due("time 10, DUE 10", oneCell(x, 0, 1), 1);
        });
        sentence("terms", "the greater of the time and DUE: DUE, if the cell is within the tolerance", x -> {
            open(x, 0, 0, 1, 4, 3);
            due("time 1", oneCell(x, 0, 1), 1);
            due("time 2, DUE 5", oneCell(x, 0, 1), 1);
            waitBefore(x, 5);
            due("time 5, DUE 9", oneCell(x, 0, 1), 0);
            due("time 6, DUE 9", oneCell(x, 0, 1), 1);
        });
        sentence("terms", "the time and DUE the same", x -> {
            open(x, 0, 0, 1, 4, 0);
            for (int time = 1; time <= 13; time += 4) {
                waitBefore(x, time);
                due("time " + time, oneCell(x, 0, 1), 1);
            }
            waitBefore(x, 16);
            due("time 16, DUE 17", oneCell(x, 0, 1), 0);
        });
        sentence("terms", "the cell is too early and is DROPPED; else DUE becomes: an early cell leaves DUE", x -> {
            open(x, 0, 0, 1, 8, 0);
            for (int time = 1; time <= 9; time++) {
                due("time " + time, oneCell(x, 0, 1), time == 1 || time == 9 ? 1 : 0);
            }
            counts(x, 7, 0, 0, 0, 2, 0, 0);
        });
        sentence("terms", "each circuit has a DUE time of its own", x -> {
            open(x, 0, 0, 1, 8, 0);
            open(x, 1, 0, 1, 8, 0);
            due("0", oneCell(x, 0, 1), 1);
            due("1", oneCell(x, 1, 1), 1);
            due("0 again", oneCell(x, 0, 1), 0);
        });
        sentence("terms", "DUE is 0 when it is opened, however late", x -> {
            due("ticks", x.pass(150), 0);
            open(x, 0, 0, 1, 8, 0);
            due("first", oneCell(x, 0, 1), 1);
            due("DUE is 159 then", x.pass(6), 0);
            due("time 158", oneCell(x, 0, 1), 0);
            due("time 159", oneCell(x, 0, 1), 1);
        });
    }

    // What the switch drops

    private static void dropTests() {
        sentence("terms", "if some cell of the same frame was dropped before .. it is dropped", x -> {
            open(x, 0, 0, 1, 2, 0);
            post(x, 0, 1, 27);
            due("time 1 goes on, time 2 is early", x.pass(2), 0);
            due("time 3", x.pass(1), 0);
            counts(x, 1, 1, 0, 0, 0, 0, 0);
        });
        sentence("terms", "and it is not the last cell of its frame: the last one goes on", x -> {
            open(x, 0, 0, 1, 2, 1);
            post(x, 0, 1, 12);
            // Times 1 and 2 go on and make DUE 5, so that only the time 3 is early.
            due("three cells", x.pass(3), 0);
            counts(x, 1, 0, 0, 0, 0, 0, 0);
            CellSwitch y = new CellSwitch();
            open(y, 0, 0, 1, 2, 1);
            post(y, 0, 1, 27);
            due("four cells", y.pass(4), 0);
            counts(y, 1, 0, 0, 0, 0, 1, 0);
        });
        sentence("terms", "of the same frame: the next frame is not dropped for it", x -> {
            open(x, 0, 0, 1, 8, 0);
            post(x, 0, 1, 4);
            due("the second cell is early", x.pass(2), 0);
            due("close", x.close(0), 0);
            open(x, 0, 0, 1, 2, 1);
            post(x, 0, 1, 4);
            due("good", x.pass(2), 1);
            counts(x, 1, 0, 0, 0, 1, 0, 0);
            due("time 5 is early", oneCell(x, 0, 1), 0);
            waitBefore(x, 11);
            post(x, 0, 1, 4);
            due("good after the early frame", x.pass(2), 1);
            counts(x, 2, 0, 0, 0, 2, 0, 0);
        });
        sentence("terms", "of the same frame: a frame of another circuit is not dropped for it", x -> {
            open(x, 0, 0, 1, 2, 0);
            openWide(x, 1, 2, 1);
            post(x, 0, 1, 27);
            post(x, 1, 1, 27);
            due("the other", x.pass(6), 1);
            due("broken", x.counted(BROKEN), 1);
            due("first", x.first(1), 59);
        });
        sentence("terms", "too early is tested before a cell dropped before", x -> {
            open(x, 0, 0, 1, 8, 0);
            post(x, 0, 1, 27);
            due("ticks", x.pass(4), 0);
            counts(x, 3, 0, 0, 0, 0, 0, 0);
        });
        sentence("terms", "a cell dropped for its frame has moved DUE", x -> {
            open(x, 0, 0, 1, 2, 0);
            post(x, 0, 1, 27);
            due("the last cell is early, DUE is 5", x.pass(4), 0);
            counts(x, 2, 1, 0, 0, 0, 0, 0);
        });
        sentence("terms", "the queue .. has six cells, it is dropped", x -> {
            crowd(x);
            openWide(x, 4, 3, 0);
            post(x, 4, 1, 1);
            due("tick", x.pass(1), 0);
            due("queued", x.queued(0), 5);
            counts(x, 0, 0, 4, 0, 0, 0, 0);
        });
        sentence("terms", "a queue with five cells has room for one", x -> {
            crowd(x);
            due("tick", x.pass(1), 0);
            due("the last cell of 0 came in", x.queued(0), 5);
            due("ticks", x.pass(5), 1);
            due("frame of 0", x.first(0), 27);
        });
        sentence("terms", "the queue to the station of the circuit's end: another one is not full", x -> {
            crowd(x);
            openWide(x, 4, 3, 1);
            post(x, 4, 1, 1);
            due("tick", x.pass(1), 1);
            due("crowded", x.counted(CROWDED), 3);
            due("inbox", x.inbox(1), 1);
        });
        sentence("terms", "a cell dropped before is tested before a full queue", x -> {
            for (int s = 0; s < 4; s++) {
                openWide(x, s, s, 0);
                post(x, s, 1, 27);
            }
            due("ticks", x.pass(2), 0);
            counts(x, 0, 0, 1, 0, 0, 0, 0);
            due("tick", x.pass(1), 0);
            // The third cell of station 3 finds the queue full, but its frame was broken before.
            counts(x, 0, 1, 3, 0, 0, 0, 0);
        });
        sentence("terms", "the last cell of a broken frame is dropped by a full queue", x -> {
            for (int s = 0; s < 4; s++) {
                openWide(x, s, s, 0);
                post(x, s, 1, 27);
            }
            due("ticks", x.pass(4), 0);
            counts(x, 0, 1, 6, 0, 0, 0, 0);
        });
        sentence("terms", "too early is tested before a full queue", x -> {
            open(x, 4, 3, 0, 8, 0);
            due("time 1", oneCell(x, 4, 0), 1);
            crowd(x);
            post(x, 4, 1, 1);
            due("time 5, DUE 9, six queued", x.pass(1), 0);
            counts(x, 1, 0, 3, 0, 1, 0, 0);
        });
        sentence("terms", "a cell dropped by a full queue has moved DUE", x -> {
            crowd(x);
            open(x, 4, 3, 0, 8, 0);
            post(x, 4, 1, 1);
            due("time 4", x.pass(1), 0);
            due("crowded", x.counted(CROWDED), 4);
            due("the queue empties", x.pass(6), 1);
            due("take", x.take(0), 27);
            due("time 11, DUE 12", oneCell(x, 4, 0), 0);
            due("early", x.counted(EARLY), 1);
            due("time 12", oneCell(x, 4, 0), 1);
        });
        sentence("terms", "a frame that a full queue broke has its next cell dropped, the queue being full or not", x -> {
            for (int s = 0; s < 3; s++) {
                openWide(x, s, s, 0);
                post(x, s, 1, 4);
                post(x, s, 1, 4);
            }
            openWide(x, 3, 3, 0);
            due("ticks", x.pass(3), 0);
            due("queued", x.queued(0), 5);
            post(x, 3, 1, 20);
            due("tick", x.pass(1), 1);
            due("crowded", x.counted(CROWDED), 4);
            due("tick", x.pass(1), 1);
            due("broken with room in the queue", x.counted(BROKEN), 1);
            due("queued", x.queued(0), 4);
        });
        sentence("terms", "the first cell of the queue .. comes to the station: one in a tick", x -> {
            for (int s = 0; s < 4; s++) {
                openWide(x, s, s, 3);
                post(x, s, 1, 1);
            }
            for (int left = 3; left >= 0; left--) {
                due("tick", x.pass(1), 1);
                due("queued", x.queued(3), left);
            }
            due("empty", x.pass(1), 0);
            due("queued", x.queued(3), 0);
        });
    }

    // The station

    private static void stationTests() {
        sentence("terms", "GOOD if .. just all cells of this frame: with one of them lost it is bad", x -> {
            for (int lost = 0; lost < 3; lost++) {
                CellSwitch y = new CellSwitch();
                openWide(y, 0, 0, 1);
                post(y, 0, 1, 27);
                due("before", y.pass(lost), 0);
                y.turn(0, 2, 0);
                due("rest", y.pass(4 - lost), 0);
                counts(y, 0, 0, 0, 1, 0, 1, 0);
            }
        });
        sentence("terms", "until the last cell of a frame comes: with the last one lost none is bad yet", x -> {
            openWide(x, 0, 0, 1);
            post(x, 0, 1, 27);
            due("three", x.pass(3), 0);
            x.turn(0, 2, 0);
            due("the last", x.pass(5), 0);
            counts(x, 0, 0, 0, 1, 0, 0, 0);
        });
        sentence("terms", "just all cells of this frame: none of the frame before", x -> {
            openWide(x, 0, 0, 1);
            post(x, 0, 1, 4);
            due("first cell", x.pass(1), 0);
            x.turn(0, 2, 0);
            due("last cell lost", x.pass(1), 0);
            post(x, 0, 1, 4);
            due("all cells, but one too many", x.pass(2), 0);
            counts(x, 0, 0, 0, 1, 0, 1, 0);
        });
        sentence("terms", "just all cells of this frame: as many, but of two frames with the same bytes", x -> {
            openWide(x, 0, 0, 1);
            post(x, 0, 1, 4);
            due("first cell", x.pass(1), 0);
            x.turn(0, 2, 0);
            due("last cell lost", x.pass(1), 0);
            post(x, 0, 1, 4);
            x.turn(0, 2, 0);
            due("first cell lost", x.pass(1), 0);
            due("last cell", x.pass(1), 0);
            counts(x, 0, 0, 0, 2, 0, 1, 0);
        });
        sentence("terms", "none of them has a turned bit in its content: each cell in turn", x -> {
            for (int bytes = 3; bytes <= 27; bytes += 8) {
                int cells = (bytes + 12) / 8;
                for (int turned = 0; turned < cells; turned++) {
                    CellSwitch y = new CellSwitch();
                    openWide(y, 0, 0, 1);
                    post(y, 0, 1, bytes);
                    due("before", y.pass(turned), 0);
                    y.turn(0, 3, turned);
                    due("rest", y.pass(cells - turned), 0);
                    counts(y, 0, 0, 0, 0, 0, 1, 0);
                }
            }
        });
        sentence("terms", "Nothing is kept of the circuit then: after a good frame", x -> {
            openWide(x, 0, 0, 1);
            for (int i = 0; i < 3; i++) {
                post(x, 0, i, 4);
                due("good", x.pass(2), 1);
            }
        });
        sentence("terms", "Nothing is kept of the circuit then: after a bad frame", x -> {
            openWide(x, 0, 0, 1);
            post(x, 0, 1, 4);
            x.turn(0, 3, 0);
            due("turned", x.pass(2), 0);
            post(x, 0, 1, 4);
            due("good", x.pass(2), 1);
            post(x, 0, 1, 4);
            x.turn(0, 2, 0);
            due("one lost", x.pass(2), 0);
            post(x, 0, 1, 4);
            due("good", x.pass(2), 1);
            counts(x, 0, 0, 0, 1, 2, 2, 0);
        });
        sentence("terms", "Nothing is kept of the circuit then: after a missed frame", x -> {
            openWide(x, 0, 0, 1);
            for (int i = 0; i < 5; i++) {
                post(x, 0, i, 4);
                due("frame " + i, x.pass(2), i < 4 ? 1 : 0);
            }
            due("take", x.take(1), 4);
            post(x, 0, 9, 4);
            due("good", x.pass(2), 1);
            counts(x, 0, 0, 0, 0, 5, 0, 1);
        });
        sentence("terms", "keeps the cells of a circuit: each circuit for itself", x -> {
            openWide(x, 0, 0, 3);
            openWide(x, 1, 0, 3);
            openWide(x, 2, 1, 3);
            post(x, 0, 10, 4);
            post(x, 1, 20, 4);
            post(x, 2, 30, 12);
            due("all", x.pass(7), 3);
            due("first", x.take(3), 4);
            due("then", x.take(3), 76);
            due("then", x.take(3), 36);
        });
        sentence("terms", "a turned bit in one circuit's cell does not make another's frame bad", x -> {
            openWide(x, 0, 0, 3);
            openWide(x, 1, 1, 3);
            post(x, 0, 10, 4);
            post(x, 1, 20, 4);
            x.turn(0, 3, 0);
            due("one of two", x.pass(4), 1);
            due("first", x.first(3), 36);
            counts(x, 0, 0, 0, 0, 1, 1, 0);
        });
        sentence("terms", "unless there are four frames: then it is MISSED", x -> {
            openWide(x, 0, 0, 1);
            for (int i = 1; i <= 6; i++) {
                post(x, 0, i, 1);
                due("frame " + i, x.pass(1), i <= 4 ? 1 : 0);
                due("inbox", x.inbox(1), i <= 4 ? i : 4);
                due("missed", x.counted(MISSED), i <= 4 ? 0 : i - 4);
            }
            due("the first is the first", x.byteOf(1, 0), 1);
        });
        sentence("terms", "unless there are four frames: the inbox of another station has room", x -> {
            openWide(x, 0, 0, 1);
            openWide(x, 1, 0, 2);
            for (int i = 0; i < 4; i++) {
                post(x, 0, i, 1);
                due("good", x.pass(1), 1);
            }
            post(x, 1, 1, 1);
            due("elsewhere", x.pass(1), 1);
        });
        sentence("terms", "a bad frame is bad, not missed, when there are four", x -> {
            openWide(x, 0, 0, 1);
            for (int i = 0; i < 4; i++) {
                post(x, 0, i, 1);
                due("good", x.pass(1), 1);
            }
            x.turn(0, 3, 0);
            post(x, 0, 1, 1);
            due("bad", x.pass(1), 0);
            counts(x, 0, 0, 0, 0, 4, 1, 0);
        });
        sentence("terms", "A good frame goes last into the inbox, also after one was taken from four", x -> {
            openWide(x, 0, 0, 1);
            for (int i = 1; i <= 4; i++) {
                post(x, 0, i, 1);
                due("good", x.pass(1), 1);
            }
            due("take", x.take(1), 1);
            post(x, 0, 5, 2);
            due("good", x.pass(1), 1);
            for (int i = 2; i <= 5; i++) {
                due("byte", x.byteOf(1, 0), i);
                due("take", x.take(1), i == 5 ? 2 : 1);
            }
        });
    }

    // Promise 9 and the lines

    private static void turnTests() {
        sentence("promise 9", "station is not good .. BAD", x -> badOutside(0, 3, s -> x.turn(s, 0, 0)));
        sentence("promise 9", "kind not 0 .. 3: BAD", x -> badOutside(0, 3, kind -> x.turn(0, kind, 0)));
        sentence("promise 9", "Else answers 0. which (any int)", x -> {
            for (int which : new int[] {0, -1, 1, 423, 424, LEAST, MOST}) {
                for (int kind = 0; kind < 4; kind++) {
                    due("turn", x.turn(kind, kind, which), 0);
                }
            }
        });
        sentence("promise 9", "which .. shows in no answer", x -> {
            for (int which : new int[] {0, -1, 1, 7, 8, 39, 40, 383, 384, LEAST, MOST}) {
                for (int kind = 0; kind < 4; kind++) {
                    CellSwitch y = new CellSwitch();
                    openWide(y, 0, 0, 1);
                    due("turn", y.turn(0, kind, which), 0);
                    due("comes", oneCell(y, 0, 1), kind < 2 ? 1 : 0);
                    due("lost", y.counted(LOST), kind == 2 ? 1 : 0);
                    due("bad", y.counted(SPOILED), kind == 3 ? 1 : 0);
                    due("wary", y.wary(0), kind == 1 || kind == 2 ? 1 : 0);
                }
            }
        });
        sentence("promise 9", "The next cell: it alone", x -> {
            for (int kind = 1; kind < 4; kind++) {
                CellSwitch y = new CellSwitch();
                openWide(y, 0, 0, 1);
                y.turn(0, kind, 0);
                due("turned", oneCell(y, 0, 1), kind == 1 ? 1 : 0);
                due("the one after it", oneCell(y, 0, 1), 1);
                due("wary", y.wary(0), 0);
            }
        });
        sentence("promise 9", "The next cell: also after ticks in which none is sent", x -> {
            for (int kind = 1; kind < 4; kind++) {
                CellSwitch y = new CellSwitch();
                openWide(y, 0, 0, 1);
                y.turn(0, kind, 0);
                due("ticks", y.pass(200), 0);
                due("wary", y.wary(0), 0);
                due("turned", oneCell(y, 0, 1), kind == 1 ? 1 : 0);
            }
        });
        sentence("promise 9", "The next cell .. that a station sends: not of another station", x -> {
            openWide(x, 0, 0, 1);
            openWide(x, 1, 1, 1);
            x.turn(0, 2, 0);
            due("of station 1", oneCell(x, 1, 1), 1);
            due("of station 0", oneCell(x, 0, 1), 0);
        });
        sentence("promise 9", "The next cell: also one that is dropped then", x -> {
            open(x, 0, 0, 1, 8, 0);
            openWide(x, 1, 0, 1);
            due("comes", oneCell(x, 0, 1), 1);
            x.turn(0, 3, 0);
            due("early", oneCell(x, 0, 1), 0);
            due("no more ahead", oneCell(x, 1, 1), 1);
            counts(x, 1, 0, 0, 0, 2, 0, 0);
        });
        sentence("promise 9", "in place of what was ahead", x -> {
            for (int before = 0; before < 4; before++) {
                for (int kind = 0; kind < 4; kind++) {
                    CellSwitch y = new CellSwitch();
                    openWide(y, 0, 0, 1);
                    due("before", y.turn(0, before, 0), 0);
                    due("in its place", y.turn(0, kind, 0), 0);
                    due("comes", oneCell(y, 0, 1), kind < 2 ? 1 : 0);
                    counts(y, 0, 0, 0, kind == 2 ? 1 : 0, kind < 2 ? 1 : 0, kind == 3 ? 1 : 0, 0);
                    due("wary", y.wary(0), kind == 1 || kind == 2 ? 1 : 0);
                }
            }
        });
    }

    /** Makes the switch wary of station 0, or trusting, by a cell of circuit 0. */
    private static CellSwitch inState(boolean wary) {
        CellSwitch y = new CellSwitch();
        openWide(y, 0, 0, 1);
        y.turn(0, wary ? 1 : 0, 0);
        due("comes", oneCell(y, 0, 1), 1);
        due("wary", y.wary(0), wary ? 1 : 0);
        return y;
    }

    private static void lineCase(boolean wary, int kind, int comes, int lost, int bad, int waryThen) {
        CellSwitch y = inState(wary);
        y.turn(0, kind, 0);
        due("comes", oneCell(y, 0, 1), comes);
        counts(y, 0, 0, 0, lost, 1 + comes, bad, 0);
        due("wary then", y.wary(0), waryThen);
    }

    private static void lineTests() {
        sentence("terms", "no bit of its head turned, the state becomes trusting: trusting", x ->
            lineCase(false, 0, 1, 0, 0, 0));
        sentence("terms", "no bit of its head turned, the state becomes trusting: wary", x ->
            lineCase(true, 0, 1, 0, 0, 0));
        sentence("terms", "If one is turned: if it is trusting, the cell goes on .. the state becomes WARY", x ->
            lineCase(false, 1, 1, 0, 0, 1));
        sentence("terms", "If one is turned: .. if it is wary, the cell is lost", x ->
            lineCase(true, 1, 0, 1, 0, 1));
        sentence("terms", "If two are turned, the cell is lost, and the state becomes wary: trusting", x ->
            lineCase(false, 2, 0, 1, 0, 1));
        sentence("terms", "If two are turned, the cell is lost, and the state becomes wary: wary", x ->
            lineCase(true, 2, 0, 1, 0, 1));
        sentence("promise 9", "one bit of its content (kind 3) (and none of its head): trusting", x ->
            lineCase(false, 3, 0, 0, 1, 0));
        sentence("promise 9", "one bit of its content (kind 3) (and none of its head): wary", x ->
            lineCase(true, 3, 0, 0, 1, 0));
        sentence("terms", "as if none were: a frame with one turned bit in each other head is good", x -> {
            openWide(x, 0, 0, 1);
            post(x, 0, 1, 27);
            for (int cell = 0; cell < 4; cell++) {
                x.turn(0, cell % 2 == 0 ? 1 : 0, 0);
                due("tick", x.pass(1), cell == 3 ? 1 : 0);
            }
            counts(x, 0, 0, 0, 0, 1, 0, 0);
        });
        sentence("terms", "A lost cell does not come to the point where DUE is looked at: it is not early", x -> {
            open(x, 0, 0, 1, 8, 0);
            due("comes", oneCell(x, 0, 1), 1);
            x.turn(0, 2, 0);
            due("lost", oneCell(x, 0, 1), 0);
            counts(x, 0, 0, 0, 1, 1, 0, 0);
        });
        sentence("terms", "A lost cell does not come to the point where DUE is looked at: DUE stays", x -> {
            open(x, 0, 0, 1, 8, 0);
            x.turn(0, 2, 0);
            due("lost", oneCell(x, 0, 1), 0);
            due("not early", oneCell(x, 0, 1), 1);
        });
        sentence("terms", "and does not count as dropped: the rest of its frame is not dropped", x -> {
            openWide(x, 0, 0, 1);
            openWide(x, 1, 1, 1);
            post(x, 0, 1, 27);
            post(x, 1, 1, 27);
            x.turn(1, 2, 0);
            due("tick", x.pass(1), 0);
            due("the lost one is not queued", x.queued(1), 0);
            due("tick", x.pass(1), 0);
            due("the second is", x.queued(1), 1);
            due("the rest", x.pass(10), 1);
            counts(x, 0, 0, 0, 1, 1, 1, 0);
        });
        sentence("terms", "A lost cell is not dropped by a full queue", x -> {
            crowd(x);
            openWide(x, 4, 3, 0);
            post(x, 4, 1, 1);
            x.turn(3, 2, 0);
            due("tick", x.pass(1), 0);
            counts(x, 0, 0, 3, 1, 0, 0, 0);
        });
        sentence("terms", "if a cell comes from the station: the state changes also if it is dropped then", x -> {
            open(x, 0, 0, 1, 8, 0);
            due("comes", oneCell(x, 0, 1), 1);
            x.turn(0, 1, 0);
            due("early", oneCell(x, 0, 1), 0);
            due("wary", x.wary(0), 1);
            due("early", oneCell(x, 0, 1), 0);
            due("trusting", x.wary(0), 0);
            counts(x, 2, 0, 0, 0, 1, 0, 0);
        });
        sentence("terms", "if a cell comes from the station: without one the state stays", x -> {
            CellSwitch y = inState(true);
            due("ticks", y.pass(200), 0);
            due("wary still", y.wary(0), 1);
        });
        sentence("terms", "a STATE for each station: of the station, not of the circuit", x -> {
            openWide(x, 0, 2, 1);
            openWide(x, 1, 2, 1);
            openWide(x, 2, 3, 1);
            x.turn(2, 1, 0);
            due("circuit 0", oneCell(x, 0, 1), 1);
            x.turn(2, 1, 0);
            due("circuit 1 from the same station", oneCell(x, 1, 1), 0);
            x.turn(3, 1, 0);
            due("circuit 2 from another", oneCell(x, 2, 1), 1);
        });
    }

    // Promises 10 to 17

    private static void questionTests() {
        sentence("promise 10", "A TICK: time goes up by 1", x -> {
            for (int ticks = 1; ticks <= 20; ticks++) {
                due("pass", x.pass(1), 0);
                due("time", x.time(), ticks);
            }
        });
        sentence("promise 10", "the time after as many ticks as 500 calls can make", x -> {
            for (int i = 1; i <= 500; i++) {
                x.pass(200);
            }
            due("time", x.time(), 100000);
            open(x, 0, 0, 1, 8, 0);
            due("comes", oneCell(x, 0, 1), 1);
            due("early", oneCell(x, 0, 1), 0);
        });
        sentence("promise 11", "station is not good: BAD", x -> badOutside(0, 3, x::queued));
        sentence("promise 11", "how many cells are in the queue: none up to five between ticks", x -> {
            crowd(x);
            int[] queued = {5, 4, 3, 2, 1, 0, 0};
            for (int left : queued) {
                x.pass(1);
                due("queued", x.queued(0), left);
                for (int s = 1; s < 4; s++) {
                    due("to another", x.queued(s), 0);
                }
            }
        });
        sentence("promise 12", "station is not good: BAD", x -> badOutside(0, 3, x::inbox));
        sentence("promise 12", "how many frames: none up to four, and down again", x -> {
            openWide(x, 0, 0, 3);
            for (int i = 0; i <= 4; i++) {
                due("inbox", x.inbox(3), i);
                post(x, 0, i, 1);
                x.pass(1);
            }
            for (int i = 4; i > 0; i--) {
                due("inbox", x.inbox(3), i);
                due("take", x.take(3), 1);
            }
            due("inbox", x.inbox(3), 0);
        });
        sentence("promise 13", "station is not good: BAD", x -> badOutside(0, 3, x::first));
        sentence("promise 13", "there is none: NONE", x -> {
            openWide(x, 0, 0, 1);
            post(x, 0, 1, 1);
            due("pass", x.pass(1), 1);
            for (int s = 0; s < 4; s++) {
                due("first", x.first(s), s == 1 ? 1 : NONE);
            }
            due("take", x.take(1), 1);
            due("taken", x.first(1), NONE);
        });
        sentence("promise 13", "32 * circuit + its number of bytes: least and greatest of each", x -> {
            for (int c = 0; c < 8; c++) {
                openWide(x, c, c % 4, 0);
                for (int bytes : new int[] {1, 27}) {
                    post(x, c, 1, bytes);
                    due("pass", x.pass(4), 1);
                    due("first", x.first(0), 32 * c + bytes);
                    due("take", x.take(0), 32 * c + bytes);
                }
            }
        });
    }

    private static void inboxTests() {
        sentence("promise 14", "station is not good: BAD", x -> {
            badOutside(0, 3, s -> x.byteOf(s, 0));
            badOutside(0, 3, s -> x.byteOf(s, -1));
        });
        sentence("promise 14", "there is no frame .. NONE", x -> {
            for (int i : new int[] {0, 1, 26, 27, -1, LEAST, MOST}) {
                due("byte " + i, x.byteOf(2, i), NONE);
            }
            openWide(x, 0, 0, 2);
            post(x, 0, 9, 27);
            due("pass", x.pass(4), 1);
            due("take", x.take(2), 27);
            for (int i : new int[] {0, 1, 26, 27, -1, LEAST, MOST}) {
                due("taken, byte " + i, x.byteOf(2, i), NONE);
            }
        });
        sentence("promise 14", "no such byte: NONE", x -> {
            openWide(x, 0, 0, 2);
            for (int bytes = 1; bytes <= 27; bytes++) {
                post(x, 0, 100, bytes);
                due("pass", x.pass(4), 1);
                due("first byte", x.byteOf(2, 0), 100);
                due("last byte", x.byteOf(2, bytes - 1), 99 + bytes);
                for (int i : outside(0, bytes - 1)) {
                    due("byte " + i, x.byteOf(2, i), NONE);
                }
                due("take", x.take(2), bytes);
            }
        });
        sentence("promise 14", "of that frame: of the first, not of the next, also if that is longer", x -> {
            openWide(x, 0, 0, 2);
            post(x, 0, 10, 2);
            post(x, 0, 20, 5);
            due("pass", x.pass(3), 2);
            due("byte 1", x.byteOf(2, 1), 11);
            due("byte 2", x.byteOf(2, 2), NONE);
            due("take", x.take(2), 2);
            due("byte 2", x.byteOf(2, 2), 22);
        });
        sentence("promise 15", "station is not good: BAD", x -> badOutside(0, 3, x::take));
        sentence("promise 15", "there is none: NONE", x -> {
            openWide(x, 0, 0, 1);
            post(x, 0, 1, 1);
            due("pass", x.pass(1), 1);
            for (int s : new int[] {0, 2, 3}) {
                due("none", x.take(s), NONE);
            }
            due("one", x.take(1), 1);
            due("no second", x.take(1), NONE);
            due("inbox", x.inbox(1), 0);
        });
        sentence("promise 15", "Else answers as first did: all four of a full inbox, in order", x -> {
            for (int c = 4; c < 8; c++) {
                openWide(x, c, 0, 1);
                post(x, c, c, c);
            }
            due("pass", x.pass(10), 4);
            for (int c = 4; c < 8; c++) {
                due("first", x.first(1), 33 * c);
                due("take", x.take(1), 33 * c);
            }
            due("none", x.first(1), NONE);
        });
        sentence("promise 16", "what is not 0 .. 6: BAD", x -> badOutside(0, 6, x::counted));
        sentence("promise 17", "station is not good: BAD", x -> badOutside(0, 3, x::wary));
        sentence("promise 17", "1 if the switch is wary of a station, else 0", x -> {
            for (int s = 0; s < 4; s++) {
                openWide(x, s, s, 0);
                x.turn(s, 2, 0);
                due("lost", oneCell(x, s, 0), 0);
                for (int t = 0; t < 4; t++) {
                    due("wary of " + t, x.wary(t), t <= s ? 1 : 0);
                }
            }
            for (int s = 0; s < 4; s++) {
                due("comes", oneCell(x, s, 0), 1);
                due("trusting", x.wary(s), 0);
            }
        });
    }

    private static void countedTests() {
        sentence("promise 16", "0 cells dropped for being early", x -> {
            open(x, 0, 0, 1, 8, 0);
            due("comes", oneCell(x, 0, 1), 1);
            for (int i = 1; i <= 7; i++) {
                due("early", oneCell(x, 0, 1), 0);
                counts(x, i, 0, 0, 0, 1, 0, 0);
            }
        });
        sentence("promise 16", "1 cells dropped because a cell of their frame was", x -> {
            open(x, 0, 0, 1, 2, 0);
            for (int i = 1; i <= 3; i++) {
                post(x, 0, 1, 27);
                due("ticks", x.pass(8), 0);
                due("early", x.counted(EARLY), 2 * i);
                due("broken", x.counted(BROKEN), i);
            }
        });
        sentence("promise 16", "2 cells dropped because a queue was full", x -> {
            crowd(x);
            counts(x, 0, 0, 1, 0, 0, 0, 0);
        });
        sentence("promise 16", "3 cells lost", x -> {
            openWide(x, 0, 0, 1);
            for (int i = 1; i <= 5; i++) {
                x.turn(0, 2, 0);
                due("lost", oneCell(x, 0, 1), 0);
                counts(x, 0, 0, 0, i, 0, 0, 0);
            }
        });
        sentence("promise 16", "4 good frames that came into inboxes: they stay counted when taken", x -> {
            openWide(x, 0, 0, 1);
            for (int i = 1; i <= 9; i++) {
                due("comes", oneCell(x, 0, 1), 1);
                counts(x, 0, 0, 0, 0, i, 0, 0);
            }
        });
        sentence("promise 16", "5 bad frames", x -> {
            openWide(x, 0, 0, 1);
            for (int i = 1; i <= 5; i++) {
                x.turn(0, 3, 0);
                due("bad", oneCell(x, 0, 1), 0);
                counts(x, 0, 0, 0, 0, 0, i, 0);
            }
        });
        sentence("promise 16", "6 frames missed", x -> {
            openWide(x, 0, 0, 1);
            for (int i = 1; i <= 9; i++) {
                post(x, 0, 1, 1);
                x.pass(1);
                counts(x, 0, 0, 0, 0, i < 4 ? i : 4, 0, i < 4 ? 0 : i - 4);
            }
        });
        sentence("promise 16", "so far: counts stay when a circuit is closed", x -> {
            open(x, 0, 0, 1, 8, 0);
            due("comes", oneCell(x, 0, 1), 1);
            due("early", oneCell(x, 0, 1), 0);
            due("close", x.close(0), 0);
            counts(x, 1, 0, 0, 0, 1, 0, 0);
            open(x, 0, 0, 1, 8, 0);
            counts(x, 1, 0, 0, 0, 1, 0, 0);
        });
    }

    // The life of an object

    /** Posts in circuits 1 .. 7 and passes, in so many calls; the frames come to stations 1 .. 3. */
    private static void busyCalls(CellSwitch x, int calls) {
        int frame = 0;
        for (int i = 0; i < calls; i++) {
            int step = i % 29;
            if (step == 28 || i == calls - 1) {
                x.pass(200);
            } else if (step % 2 == 0) {
                x.run(frame, 3, 27);
            } else {
                due("post", x.post(1 + frame % 7), 4);
                frame++;
            }
        }
    }

    private static void lifeTests() {
        sentence("what it is", "at most 512 calls: the first frame is whole in the last of them", x -> {
            openWide(x, 0, 0, 0);
            for (int c = 1; c < 8; c++) {
                openWide(x, c, c % 4, 1 + c % 3);
            }
            post(x, 0, 17, 27);
            due("pass", x.pass(4), 1);
            busyCalls(x, 512 - 11 - 28);
            for (int i = 0; i < 27; i++) {
                due("byte " + i, x.byteOf(0, i), 17 + i);
            }
            due("the 512th call", x.take(0), 27);
        });
        sentence("what it is", "at most 512 calls: as many frames as they can post", x -> {
            openWide(x, 0, 0, 1);
            int before = 0;
            for (int i = 0; i < 102; i++) {
                due("fill", x.fill(2 * i), 1);
                due("post", x.post(0), 1);
                due("fill", x.fill(2 * i + 1), 1);
                due("post", x.post(0), 1);
                before += x.pass(2);
            }
            due("came", before, 4);
            due("the 512th call", x.byteOf(1, 0), 0);
        });
    }

    public static void main(String[] args) {
        newObject();
        openTests();
        closeRefusals();
        closeTests();
        waitingTests();
        fillTests();
        runTests();
        postTests();
        passTests();
        sendingTests();
        dueTests();
        dropTests();
        stationTests();
        turnTests();
        lineTests();
        questionTests();
        inboxTests();
        countedTests();
        lifeTests();
        System.out.println(sentences + " sentences: "
            + (wrong == 0 ? "all answers are as due" : wrong + " answers are not as due"));
        if (wrong != 0) {
            System.exit(1);
        }
    }
}
