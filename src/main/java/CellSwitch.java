/** Frames sent in cells through a switch, with rates, queues, lost cells and bits turned round. */
public final class CellSwitch {
    public static final int BAD = -1;
    public static final int NONE = -2;
    public static final int FULL = -3;
    public static final int BUSY = -4;

    private static final int STATIONS = 4;
    private static final int CIRCUITS = 8;
    private static final int GREATEST_ENDS = 15;
    private static final int GREATEST_GAP = 8;
    private static final int GREATEST_TOLERANCE = 40;
    private static final int GREATEST_TICKS = 200;

    private static final int FRAME_ROOM = 27;
    private static final int WAIT_ROOM = 2;
    private static final int WAIT_PLACES = CIRCUITS * WAIT_ROOM;
    private static final int QUEUE_ROOM = 6;
    private static final int QUEUE_PLACES = STATIONS * QUEUE_ROOM;
    private static final int INBOX_ROOM = 4;
    private static final int INBOX_PLACES = STATIONS * INBOX_ROOM;

    // A frame takes two calls at least, one that fills and one that posts: within the
    // 512 calls of an object no place is used twice, so that none has to be given back.
    private static final int FRAMES = 256;
    private static final int FRAME_BYTES = FRAMES * FRAME_ROOM;

    private static final int HEAD_ONE = 1;
    private static final int HEAD_TWO = 2;
    private static final int CONTENT = 3;

    private static final int EARLY = 0;
    private static final int BROKEN = 1;
    private static final int CROWDED = 2;
    private static final int LOST = 3;
    private static final int GOOD_FRAMES = 4;
    private static final int BAD_FRAMES = 5;
    private static final int MISSED_FRAMES = 6;
    private static final int COUNTS = 7;

    // A cell is one number: its frame above these two marks.
    private static final int CELL_FRAME_SHIFT = 2;
    private static final int CELL_LAST = 2;
    private static final int CELL_TURNED = 1;

    private int now;
    private final int[] counts = new int[COUNTS];

    // The buffer is the place of the frame that is posted next, so that post moves no byte.
    private int bufferFrame;
    private int bufferSize;
    private final int[] frameBytes = new int[FRAME_BYTES];
    private final int[] frameSize = new int[FRAMES];
    private final int[] frameCircuit = new int[FRAMES];

    private final boolean[] isOpen = new boolean[CIRCUITS];
    private final int[] fromStation = new int[CIRCUITS];
    private final int[] toStation = new int[CIRCUITS];
    private final int[] gapOf = new int[CIRCUITS];
    private final int[] toleranceOf = new int[CIRCUITS];
    private final int[] dueTime = new int[CIRCUITS];

    private final int[] waitCount = new int[CIRCUITS];
    private final int[] waitFrame = new int[WAIT_PLACES];
    private final int[] sentCells = new int[CIRCUITS];
    private final boolean[] hasDropped = new boolean[CIRCUITS];

    private final int[] keptCells = new int[CIRCUITS];
    private final int[] keptFrame = new int[CIRCUITS];
    private final boolean[] keptSpoiled = new boolean[CIRCUITS];

    private final int[] lastSender = new int[STATIONS];
    private final int[] turnedAhead = new int[STATIONS];
    private final boolean[] isWary = new boolean[STATIONS];

    private final int[] queueCount = new int[STATIONS];
    private final int[] queueCell = new int[QUEUE_PLACES];
    private final int[] inboxCount = new int[STATIONS];
    private final int[] inboxFrame = new int[INBOX_PLACES];

    public CellSwitch() {
        for (int station = 0; station < STATIONS; station++) {
            lastSender[station] = CIRCUITS - 1;
        }
    }

    public int open(int c, int ends, int gap, int tolerance) {
        if (!isCircuit(c) || ends < 0 || ends > GREATEST_ENDS) {
            return BAD;
        }
        if (gap < 1 || gap > GREATEST_GAP || tolerance < 0 || tolerance > GREATEST_TOLERANCE) {
            return BAD;
        }
        if (isOpen[c]) {
            return BUSY;
        }
        isOpen[c] = true;
        fromStation[c] = ends / STATIONS;
        toStation[c] = ends % STATIONS;
        gapOf[c] = gap;
        toleranceOf[c] = tolerance;
        dueTime[c] = 0;
        return 0;
    }

    public int close(int c) {
        if (!isCircuit(c)) {
            return BAD;
        }
        if (!isOpen[c]) {
            return NONE;
        }
        if (hasCellInQueue(c)) {
            return BUSY;
        }
        int waited = waitCount[c];
        isOpen[c] = false;
        waitCount[c] = 0;
        startNextFrame(c);
        keepNothing(c);
        return waited;
    }

    public int waiting(int c) {
        if (!isCircuit(c)) {
            return BAD;
        }
        return isOpen[c] ? waitCount[c] : NONE;
    }

    public int fill(int b) {
        if (b < 0 || b > 255) {
            return BAD;
        }
        if (bufferSize == FRAME_ROOM) {
            return FULL;
        }
        append(b);
        return bufferSize;
    }

    public int run(int seed, int step, int many) {
        if (many < 0) {
            return BAD;
        }
        if (many > FRAME_ROOM - bufferSize) {
            return FULL;
        }
        for (int i = 0; i < many; i++) {
            append((seed + step * i) & 255);
        }
        return bufferSize;
    }

    public int post(int c) {
        if (!isCircuit(c)) {
            return BAD;
        }
        if (!isOpen[c] || bufferSize == 0) {
            return NONE;
        }
        if (waitCount[c] == WAIT_ROOM) {
            return FULL;
        }
        int frame = bufferFrame;
        frameSize[frame] = bufferSize;
        frameCircuit[frame] = c;
        waitFrame[c * WAIT_ROOM + waitCount[c]] = frame;
        waitCount[c]++;
        bufferFrame = (frame + 1) % FRAMES;
        bufferSize = 0;
        return cellsOf(frame);
    }

    public int pass(int ticks) {
        if (ticks < 0 || ticks > GREATEST_TICKS) {
            return BAD;
        }
        int before = counts[GOOD_FRAMES];
        for (int i = 0; i < ticks; i++) {
            tick();
        }
        return counts[GOOD_FRAMES] - before;
    }

    public int turn(int station, int kind, int which) {
        if (!isStation(station) || kind < 0 || kind > CONTENT) {
            return BAD;
        }
        turnedAhead[station] = kind;
        return 0;
    }

    public int time() {
        return now;
    }

    public int queued(int station) {
        return isStation(station) ? queueCount[station] : BAD;
    }

    public int inbox(int station) {
        return isStation(station) ? inboxCount[station] : BAD;
    }

    public int first(int station) {
        return isStation(station) ? describeFirst(station) : BAD;
    }

    public int byteOf(int station, int i) {
        if (!isStation(station)) {
            return BAD;
        }
        if (inboxCount[station] == 0) {
            return NONE;
        }
        int frame = inboxFrame[station * INBOX_ROOM];
        if (i < 0 || i >= frameSize[frame]) {
            return NONE;
        }
        return frameBytes[frame * FRAME_ROOM + i];
    }

    public int take(int station) {
        if (!isStation(station)) {
            return BAD;
        }
        int answer = describeFirst(station);
        if (answer != NONE) {
            inboxCount[station]--;
            moveUp(inboxFrame, station * INBOX_ROOM, inboxCount[station]);
        }
        return answer;
    }

    public int counted(int what) {
        if (what < 0 || what >= COUNTS) {
            return BAD;
        }
        return counts[what];
    }

    public int wary(int station) {
        if (!isStation(station)) {
            return BAD;
        }
        return isWary[station] ? 1 : 0;
    }

    private static boolean isStation(int station) {
        return station >= 0 && station < STATIONS;
    }

    private static boolean isCircuit(int c) {
        return c >= 0 && c < CIRCUITS;
    }

    private int cellsOf(int frame) {
        return (frameSize[frame] + 12) / 8;
    }

    private void append(int b) {
        frameBytes[bufferFrame * FRAME_ROOM + bufferSize] = b;
        bufferSize++;
    }

    private int describeFirst(int station) {
        if (inboxCount[station] == 0) {
            return NONE;
        }
        int frame = inboxFrame[station * INBOX_ROOM];
        return 32 * frameCircuit[frame] + frameSize[frame];
    }

    private static void moveUp(int[] row, int start, int left) {
        for (int i = 0; i < left; i++) {
            row[start + i] = row[start + i + 1];
        }
    }

    private boolean hasCellInQueue(int c) {
        int station = toStation[c];
        for (int i = 0; i < queueCount[station]; i++) {
            int frame = queueCell[station * QUEUE_ROOM + i] >> CELL_FRAME_SHIFT;
            if (frameCircuit[frame] == c) {
                return true;
            }
        }
        return false;
    }

    private void tick() {
        now++;
        for (int station = 0; station < STATIONS; station++) {
            sendFrom(station);
        }
        for (int station = 0; station < STATIONS; station++) {
            deliverTo(station);
        }
    }

    private void sendFrom(int station) {
        int c = nextSender(station);
        if (c == NONE) {
            return;
        }
        lastSender[station] = c;
        int turned = turnedAhead[station];
        turnedAhead[station] = 0;
        int frame = waitFrame[c * WAIT_ROOM];
        sentCells[c]++;
        boolean last = sentCells[c] >= cellsOf(frame);
        int cell = (frame << CELL_FRAME_SHIFT) + (last ? CELL_LAST : 0) + (turned == CONTENT ? CELL_TURNED : 0);
        if (crossesLine(station, turned)) {
            enterSwitch(c, cell);
        } else {
            counts[LOST]++;
        }
        if (last) {
            waitCount[c]--;
            moveUp(waitFrame, c * WAIT_ROOM, waitCount[c]);
            startNextFrame(c);
        }
    }

    private int nextSender(int station) {
        for (int i = 1; i <= CIRCUITS; i++) {
            int c = (lastSender[station] + i) % CIRCUITS;
            if (waitCount[c] > 0 && fromStation[c] == station) {
                return c;
            }
        }
        return NONE;
    }

    private void startNextFrame(int c) {
        sentCells[c] = 0;
        hasDropped[c] = false;
    }

    private boolean crossesLine(int station, int turned) {
        boolean wasWary = isWary[station];
        isWary[station] = turned == HEAD_ONE || turned == HEAD_TWO;
        // A single turned bit is put right only while the switch still trusts the station.
        return turned != HEAD_TWO && (turned != HEAD_ONE || !wasWary);
    }

    private void enterSwitch(int c, int cell) {
        if (now < dueTime[c] - toleranceOf[c]) {
            drop(c, EARLY);
            return;
        }
        dueTime[c] = (now > dueTime[c] ? now : dueTime[c]) + gapOf[c];
        int station = toStation[c];
        // The last cell goes on even in a broken frame: it tells the station where the frame ends.
        if (hasDropped[c] && (cell & CELL_LAST) == 0) {
            drop(c, BROKEN);
        } else if (queueCount[station] == QUEUE_ROOM) {
            drop(c, CROWDED);
        } else {
            queueCell[station * QUEUE_ROOM + queueCount[station]] = cell;
            queueCount[station]++;
        }
    }

    private void drop(int c, int reason) {
        hasDropped[c] = true;
        counts[reason]++;
    }

    private void deliverTo(int station) {
        if (queueCount[station] == 0) {
            return;
        }
        int start = station * QUEUE_ROOM;
        int cell = queueCell[start];
        queueCount[station]--;
        moveUp(queueCell, start, queueCount[station]);
        keep(cell);
        if ((cell & CELL_LAST) != 0) {
            endFrame(station, cell >> CELL_FRAME_SHIFT);
        }
    }

    private void keep(int cell) {
        int frame = cell >> CELL_FRAME_SHIFT;
        int c = frameCircuit[frame];
        if (keptCells[c] == 0) {
            keptFrame[c] = frame;
        }
        // Cells of two frames are kept together when the last cell of the first one never came.
        if (keptFrame[c] != frame || (cell & CELL_TURNED) != 0) {
            keptSpoiled[c] = true;
        }
        keptCells[c]++;
    }

    private void keepNothing(int c) {
        keptCells[c] = 0;
        keptSpoiled[c] = false;
    }

    private void endFrame(int station, int frame) {
        int c = frameCircuit[frame];
        boolean good = !keptSpoiled[c] && keptCells[c] == cellsOf(frame);
        keepNothing(c);
        if (!good) {
            counts[BAD_FRAMES]++;
        } else if (inboxCount[station] == INBOX_ROOM) {
            counts[MISSED_FRAMES]++;
        } else {
            inboxFrame[station * INBOX_ROOM + inboxCount[station]] = frame;
            inboxCount[station]++;
            counts[GOOD_FRAMES]++;
        }
    }
}
