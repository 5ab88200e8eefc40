import java.util.Arrays;

/**
 * Differences as published: files of windows, each with a segment of the old bytes or of what came
 * out before, codes that stand for two instructions, addresses by two caches, tables of codes that
 * are given as differences of the usual one, a sum by the told extension; opened and judged in
 * full, and made.
 *
 * <p>All rows are made with the object and used again by every call, so that calls make no objects.
 */
public final class VcdiffForms {
    private static final int OUT_OF_RANGE = -2;
    private static final int NOT_IN_THIS_STATE = -3;
    private static final int NO_ROOM = -4;
    private static final int BEFORE_FAULTS = -10;

    private static final int ROW_MOST = 8000;
    private static final int OLD_MOST = 4000;
    private static final int MAKE_MOST = 6000;
    private static final int WINDOW_MOST = 2048;
    private static final int NOTED_MOST = 2000;
    // A window's instructions: 4 c + a <= 2048 with c copies and runs, a <= c + 9 adds.
    private static final int MOVES_MOST = 1024;
    // A given table's FILE: what it tells of 1536 bytes takes hardly more than these.
    private static final int TABLE_FILE_MOST = 2048;

    private static final int CODES = 256;
    private static final int TABLE_BYTES = 1536;
    private static final int NEAR_MOST = 32;
    private static final int SAME_MOST = 16;
    private static final int USUAL_NEAR = 4;
    private static final int USUAL_SAME = 3;
    private static final int SAME_SLOTS = 256;

    private static final int NOTHING = 0;
    private static final int ADD = 1;
    private static final int RUN = 2;
    private static final int COPY = 3;

    // What entry() and table() ask for: one of these three, and 3 more of the second instruction.
    private static final int KIND = 0;
    private static final int SIZE = 1;
    private static final int MODE = 2;
    private static final int FIRST = 0;
    private static final int SECOND = 3;
    private static final int WHATS = 6;

    private static final int MODE_SELF = 0;
    private static final int MODE_HERE = 1;
    private static final int MODE_NEAR = 2;

    private static final int ADD_MOST = 255;
    private static final int MATCH_LEAST = 4;
    private static final int MATCHES_MOST = 16;

    private static final long BIG_MOST = 4294967295L;
    private static final int BIG_BYTES = 5;
    private static final long BIG_WRONG = -1;
    private static final long BIG_MISSING = -2;

    private static final long HEAD = 0xD6C3C400L;
    private static final int HEAD_TABLE = 2;
    private static final int HEAD_APPENDIX = 4;

    private static final int WINDOW_OLD = 1;
    private static final int WINDOW_CAME = 2;
    private static final int WINDOW_SUM = 4;

    private static final int MARK_SUMS = 1;
    private static final int MARK_TABLE = 2;
    private static final int MARK_CAME = 4;
    private static final int MARKS_MOST = 7;

    private static final int TOLD_WINDOWS = 0;
    private static final int TOLD_DOUBLES = 4;
    private static final int TOLD_BYTES = 5;
    private static final int TOLD_APPENDIX = 6;
    private static final int TOLD_TABLE = 7;
    private static final int TOLD_NEAR = 8;
    private static final int TOLD_SAME = 9;
    private static final int TOLD_COUNTS = 8;
    private static final int DETAILS = 4;

    private static final int NO_FAULT = 0;
    private static final int FAULT_MISSING = 1;
    private static final int FAULT_START = 2;
    private static final int FAULT_NUMBER = 3;
    private static final int FAULT_HEAD = 4;
    private static final int FAULT_TABLE = 5;
    private static final int FAULT_WINDOW = 6;
    private static final int FAULT_SEGMENT = 7;
    private static final int FAULT_FOLLOWS = 8;
    private static final int FAULT_ZERO = 9;
    private static final int FAULT_ROOM = 10;
    private static final int FAULT_SIZE = 11;
    private static final int FAULT_DATA = 12;
    private static final int FAULT_TARGET = 13;
    private static final int FAULT_ADDRESS = 14;
    private static final int FAULT_END = 15;
    private static final int FAULT_SUM = 16;

    private Row row = new Row(ROW_MOST);
    private Row came = new Row(ROW_MOST);
    // Where a call's outcome grows: it changes places with what came out only when all went well.
    private Row spare = new Row(ROW_MOST);
    private final Row oldBytes = new Row(OLD_MOST);
    private final Row tableFile = new Row(TABLE_FILE_MOST);
    private final Table usual = new Table();
    private final Table givenTable = new Table();
    private final Table openTable = new Table();
    private final Log log = new Log(NOTED_MOST);
    private final Caches openCaches = new Caches(NEAR_MOST, SAME_MOST);
    private final Opener opener;
    private final Opener tableOpener;
    private final Maker maker = new Maker();

    public VcdiffForms() {
        usual.becomeUsual();
        givenTable.becomeUsual();
        openTable.becomeUsual();
        openCaches.fit(USUAL_NEAR, USUAL_SAME);
        opener = new Opener(openTable, openCaches, log, HEAD_TABLE | HEAD_APPENDIX);
        tableOpener = new Opener(usual, new Caches(USUAL_NEAR, USUAL_SAME), new Log(0), HEAD_APPENDIX);
    }

    public int feed(long v, int n) {
        if (n < 0 || n > 8) {
            return OUT_OF_RANGE;
        }
        if (n > row.room()) {
            return NO_ROOM;
        }
        if (n == 0) {
            row.clear();
        }
        row.pushLowest(v, n);
        return row.length();
    }

    public int fill(int n, int seed, int bits) {
        if (n < 0 || bits < 0 || bits > 7) {
            return OUT_OF_RANGE;
        }
        if (n > row.room()) {
            return NO_ROOM;
        }
        int z = seed;
        for (int k = 0; k < n; k++) {
            z = z * 1664525 + 1013904223;
            row.push(z >>> 24 >>> bits);
        }
        return row.length();
    }

    public int again(int first, int n) {
        if (first < 0 || n < 0 || n > row.length() || first > row.length() - n) {
            return OUT_OF_RANGE;
        }
        if (n > row.room()) {
            return NO_ROOM;
        }
        row.append(row, first, n);
        return row.length();
    }

    public int size() {
        return row.length();
    }

    public int set(int i, int b) {
        if (i < 0 || i >= row.length() || !isByte(b)) {
            return OUT_OF_RANGE;
        }
        int was = row.at(i);
        row.put(i, b);
        return was;
    }

    public int cut(int n) {
        if (n < 0 || n > row.length()) {
            return OUT_OF_RANGE;
        }
        int had = row.length();
        row.shorten(n);
        return had;
    }

    public int swap() {
        Row kept = row;
        row = came;
        came = kept;
        return row.length();
    }

    public int differ() {
        int most = Math.max(row.length(), came.length());
        for (int i = 0; i < most; i++) {
            if (row.at(i) != came.at(i)) {
                return i;
            }
        }
        return NOT_IN_THIS_STATE;
    }

    public int out(int i) {
        return i < 0 || i >= came.length() ? OUT_OF_RANGE : came.at(i);
    }

    public int old() {
        if (row.length() > OLD_MOST) {
            return NO_ROOM;
        }
        oldBytes.clear();
        oldBytes.append(row, 0, row.length());
        return oldBytes.length();
    }

    public int given(int near, int same) {
        if (near < 0 || near > NEAR_MOST || same < 0 || same > SAME_MOST) {
            return OUT_OF_RANGE;
        }
        givenTable.become(usual.bytes, near, same);
        return CODES;
    }

    public int entry(int i, int what, int v) {
        if (!isEntry(i, what) || !isByte(v)) {
            return OUT_OF_RANGE;
        }
        int was = givenTable.get(i, what);
        givenTable.put(i, what, v);
        return was;
    }

    public int make(int marks) {
        if (marks < 0 || marks > MARKS_MOST) {
            return OUT_OF_RANGE;
        }
        boolean byGiven = (marks & MARK_TABLE) != 0;
        if (byGiven && !givenTable.isGood()) {
            return NOT_IN_THIS_STATE;
        }
        if (row.length() > MAKE_MOST) {
            return NO_ROOM;
        }
        startFile(spare, byGiven ? HEAD_TABLE : 0);
        if (byGiven) {
            startFile(tableFile, 0);
            maker.makeWindows(givenTable.bytes, usual.bytes, usual, 0, tableFile);
            tellTable();
        }
        boolean couldTell = maker.makeWindows(row, oldBytes, byGiven ? givenTable : usual, marks, spare);
        if (!couldTell) {
            return NOT_IN_THIS_STATE;
        }
        if (spare.hasLost()) {
            return NO_ROOM;
        }
        letOut();
        return came.length();
    }

    public int open() {
        openTable.become(usual.bytes, USUAL_NEAR, USUAL_SAME);
        opener.begin(row, 0, row.length(), oldBytes, spare);
        opener.readHead();
        if (opener.wantsTable()) {
            tableOpener.begin(row, opener.reached(), opener.tableEnd(), usual.bytes, spare);
            tableOpener.readHead();
            tableOpener.readAppendix();
            tableOpener.readWindows();
            opener.takeTable(tableOpener.faultFound() == NO_FAULT);
        }
        opener.readAppendix();
        opener.readWindows();
        if (opener.faultFound() != NO_FAULT) {
            return BEFORE_FAULTS - opener.faultFound();
        }
        letOut();
        return came.length();
    }

    public int place() {
        return opener.faultPlace();
    }

    public int told(int what) {
        if (what == TOLD_NEAR) {
            return openTable.near;
        }
        if (what == TOLD_SAME) {
            return openTable.same;
        }
        return what < 0 || what >= TOLD_COUNTS ? OUT_OF_RANGE : log.countOf(what);
    }

    public int instruction(int i, int what) {
        if (i < 0 || i >= log.length() || what < 0 || what >= DETAILS) {
            return OUT_OF_RANGE;
        }
        return log.detail(i, what);
    }

    public int table(int i, int what) {
        return isEntry(i, what) ? openTable.get(i, what) : OUT_OF_RANGE;
    }

    public int cache(int which, int i) {
        if (which == 0 && i >= 0 && i < openCaches.nearCount) {
            return openCaches.nearAt(i);
        }
        if (which == 1 && i >= 0 && i < openCaches.sameCount) {
            return openCaches.sameAt(i);
        }
        return OUT_OF_RANGE;
    }

    private static boolean isByte(int b) {
        return b >= 0 && b <= 255;
    }

    private static boolean isEntry(int i, int what) {
        return i >= 0 && i < CODES && what >= 0 && what < WHATS;
    }

    private static void startFile(Row file, int headMarks) {
        file.clear();
        file.pushLowest(HEAD, 4);
        file.push(headMarks);
    }

    private void tellTable() {
        spare.pushBig(2 + tableFile.length());
        spare.push(givenTable.near);
        spare.push(givenTable.same);
        spare.append(tableFile, 0, tableFile.length());
    }

    private void letOut() {
        Row kept = came;
        came = spare;
        spare = kept;
    }

    private static int bigLength(long v) {
        int n = 1;
        for (long rest = v >>> 7; rest != 0 && n < BIG_BYTES; rest >>>= 7) {
            n++;
        }
        return n;
    }

    /** A row of bytes. What comes when its room is used up is not kept, but known. */
    private static final class Row {
        private final byte[] cells;
        private int count;
        private boolean lost;

        Row(int room) {
            cells = new byte[Math.max(room, 0)];
        }

        int length() {
            return count;
        }

        int room() {
            return cells.length - count;
        }

        boolean hasLost() {
            return lost;
        }

        int at(int i) {
            return i >= 0 && i < count ? cells[i] & 255 : -1;
        }

        void put(int i, int b) {
            if (i >= 0 && i < count) {
                cells[i] = (byte) b;
            }
        }

        void clear() {
            count = 0;
            lost = false;
        }

        void shorten(int n) {
            if (n >= 0 && n < count) {
                count = n;
            }
        }

        void push(int b) {
            if (count < cells.length) {
                cells[count] = (byte) b;
                count++;
            } else {
                lost = true;
            }
        }

        void pushLowest(long v, int n) {
            for (int k = n - 1; k >= 0; k--) {
                push((int) (v >>> 8 * k));
            }
        }

        void pushBig(long v) {
            for (int k = bigLength(v) - 1; k > 0; k--) {
                push((int) (v >>> 7 * k) & 127 | 128);
            }
            push((int) v & 127);
        }

        void append(Row from, int first, int n) {
            if (first < 0 || n < 0 || n > from.count || first > from.count - n) {
                return;
            }
            int kept = Math.min(n, room());
            System.arraycopy(from.cells, first, cells, count, kept);
            count += kept;
            lost = lost || kept < n;
        }

        long sum(int from, int end) {
            int a = 1;
            int b = 0;
            for (int i = from; i < end; i++) {
                a = (a + at(i)) % 65521;
                b = (b + a) % 65521;
            }
            return 65536L * b + a;
        }
    }

    /** A part of a row that is read from its beginning on. */
    private static final class Cursor {
        private Row bytes = new Row(0);
        private int at;
        private int end;

        void lay(Row from, int first, int behind) {
            bytes = from;
            at = first;
            end = behind;
        }

        int left() {
            return end - at;
        }

        void pass(int n) {
            at += n;
        }

        int next() {
            if (at >= end) {
                return -1;
            }
            int b = bytes.at(at);
            at++;
            return b;
        }

        long nextBig() {
            long v = 0;
            for (int k = 0; k < BIG_BYTES; k++) {
                if (at >= end) {
                    return BIG_MISSING;
                }
                int b = bytes.at(at);
                at++;
                v = v * 128 + (b & 127);
                if (b < 128) {
                    return v > BIG_MOST ? BIG_WRONG : v;
                }
            }
            return BIG_WRONG;
        }
    }

    /** A TABLE, held AS BYTES. */
    private static final class Table {
        private final Row bytes = new Row(TABLE_BYTES);
        private int near;
        private int same;

        private static int cell(int code, int what) {
            return (what % 3 * 2 + what / 3) * CODES + code;
        }

        int get(int code, int what) {
            return bytes.at(cell(code, what));
        }

        void put(int code, int what, int v) {
            bytes.put(cell(code, what), v);
        }

        void become(Row others, int n, int s) {
            bytes.clear();
            bytes.append(others, 0, TABLE_BYTES);
            near = n;
            same = s;
        }

        void becomeUsual() {
            near = USUAL_NEAR;
            same = USUAL_SAME;
            bytes.clear();
            for (int k = 0; k < TABLE_BYTES; k++) {
                bytes.push(0);
            }
            layPairs(laySingles());
        }

        private void lay(int code, int half, int kind, int size, int mode) {
            put(code, half + KIND, kind);
            put(code, half + SIZE, size);
            put(code, half + MODE, mode);
        }

        private int laySingles() {
            lay(0, FIRST, RUN, 0, 0);
            int code = 1;
            for (int size = 0; size <= 17; size++) {
                lay(code, FIRST, ADD, size, 0);
                code++;
            }
            for (int mode = 0; mode <= 8; mode++) {
                lay(code, FIRST, COPY, 0, mode);
                code++;
                for (int size = 4; size <= 18; size++) {
                    lay(code, FIRST, COPY, size, mode);
                    code++;
                }
            }
            return code;
        }

        private void layPairs(int from) {
            int code = from;
            for (int mode = 0; mode <= 8; mode++) {
                int most = mode <= 5 ? 6 : 4;
                for (int add = 1; add <= 4; add++) {
                    for (int size = 4; size <= most; size++) {
                        lay(code, FIRST, ADD, add, 0);
                        lay(code, SECOND, COPY, size, mode);
                        code++;
                    }
                }
            }
            for (int mode = 0; mode <= 8; mode++) {
                lay(code, FIRST, COPY, 4, mode);
                lay(code, SECOND, ADD, 1, 0);
                code++;
            }
        }

        boolean isGood() {
            for (int code = 0; code < CODES; code++) {
                if (!isGoodHalf(code, FIRST) || !isGoodHalf(code, SECOND)) {
                    return false;
                }
            }
            return true;
        }

        private boolean isGoodHalf(int code, int half) {
            int mode = get(code, half + MODE);
            switch (get(code, half + KIND)) {
                case NOTHING:
                    return get(code, half + SIZE) == 0 && mode == 0;
                case ADD:
                case RUN:
                    return mode == 0;
                case COPY:
                    return mode < MODE_NEAR + near + same;
                default:
                    return false;
            }
        }
    }

    /** The CACHES of a WINDOW. */
    private static final class Caches {
        private final int[] near;
        private final int[] same;
        private int nearCount;
        private int sameCount;
        private int next;

        Caches(int nearRoom, int sameRoom) {
            near = new int[Math.max(nearRoom, 0)];
            same = new int[Math.max(sameRoom, 0) * SAME_SLOTS];
        }

        void fit(int n, int s) {
            nearCount = Math.max(0, Math.min(n, near.length));
            sameCount = Math.max(0, Math.min(s * SAME_SLOTS, same.length));
            wipe();
        }

        void wipe() {
            Arrays.fill(near, 0);
            Arrays.fill(same, 0);
            next = 0;
        }

        int nearAt(int i) {
            return i >= 0 && i < nearCount ? near[i] : 0;
        }

        int sameAt(int i) {
            return i >= 0 && i < sameCount ? same[i] : 0;
        }

        void keep(int address) {
            // Without near its count is 0, and next is not below it.
            if (next < nearCount) {
                near[next] = address;
                next = (next + 1) % nearCount;
            }
            if (sameCount > 0 && address >= 0) {
                same[address % sameCount] = address;
            }
        }
    }

    /** What is told of an opening: its counts, and the first of its instructions. */
    private static final class Log {
        private final int[] counts = new int[TOLD_COUNTS];
        private final int[] details;
        private int noted;

        Log(int room) {
            details = new int[Math.max(room, 0) * DETAILS];
        }

        void clear() {
            Arrays.fill(counts, 0);
            noted = 0;
        }

        int length() {
            return noted;
        }

        int countOf(int what) {
            return what >= 0 && what < TOLD_COUNTS ? counts[what] : 0;
        }

        void count(int what, int n) {
            if (what >= 0 && what < TOLD_COUNTS) {
                counts[what] += n;
            }
        }

        int detail(int i, int what) {
            int k = i * DETAILS + what;
            return k >= 0 && k < details.length ? details[k] : 0;
        }

        void through(int kind, int size, int address, int mode) {
            // told() numbers ADDS, RUNS, COPIES as their KINDS are.
            count(kind, 1);
            count(TOLD_BYTES, size);
            int k = noted * DETAILS;
            if (k + DETAILS <= details.length) {
                details[k] = kind;
                details[k + 1] = size;
                details[k + 2] = address;
                details[k + 3] = mode;
                noted++;
            }
        }
    }

    /** SPACE: a segment of a row, and behind it the target as far as it has come. */
    private static final class Space {
        private Row segment = new Row(0);
        private int segmentPlace;
        private int segmentSize;
        private Row came = segment;
        private int targetBegin;

        void lay(Row from, int first, int n, Row target) {
            segment = from;
            segmentPlace = first;
            segmentSize = n;
            came = target;
            targetBegin = target.length();
        }

        int targetLength() {
            return came.length() - targetBegin;
        }

        int here() {
            return segmentSize + targetLength();
        }

        int at(int address) {
            return address < segmentSize
                    ? segment.at(segmentPlace + address)
                    : came.at(targetBegin + address - segmentSize);
        }

        long sum() {
            return came.sum(targetBegin, came.length());
        }
    }

    /** Opens a FILE step by step; behind a FAULT no step does anything. */
    private static final class Opener {
        private final Table table;
        private final Caches caches;
        private final Log log;
        private final int headMost;
        private final Cursor file = new Cursor();
        private final Cursor data = new Cursor();
        private final Cursor codes = new Cursor();
        private final Cursor addresses = new Cursor();
        private final Cursor sum = new Cursor();
        private final Space space = new Space();
        private Row old = new Row(0);
        private Row came = old;
        private int fault = NO_FAULT;
        private int place = -1;
        private int headMarks;
        private int tablePlace;
        private int tableSize;
        private int targetSize;
        private int codePlace;

        Opener(Table table, Caches caches, Log log, int headMost) {
            this.table = table;
            this.caches = caches;
            this.log = log;
            this.headMost = headMost;
        }

        void begin(Row from, int first, int end, Row oldRow, Row target) {
            file.lay(from, first, end);
            old = oldRow;
            came = target;
            came.clear();
            caches.fit(table.near, table.same);
            log.clear();
            fault = NO_FAULT;
            place = -1;
            headMarks = 0;
            tablePlace = first;
            tableSize = 0;
        }

        int faultFound() {
            return fault;
        }

        int faultPlace() {
            return place;
        }

        int reached() {
            return file.at;
        }

        int tableEnd() {
            return tablePlace + tableSize;
        }

        private boolean fail(int which, int where) {
            fault = which;
            place = where;
            return false;
        }

        private boolean lacks(long n) {
            if (n > file.left()) {
                fail(FAULT_MISSING, file.end);
                return true;
            }
            return false;
        }

        /** A BIG number of the head or of a WINDOW; below 0 behind a FAULT. */
        private long readBig() {
            int where = file.at;
            long v = file.nextBig();
            if (v == BIG_MISSING) {
                fail(FAULT_MISSING, file.end);
            } else if (v == BIG_WRONG) {
                fail(FAULT_NUMBER, where);
            }
            return v;
        }

        void readHead() {
            int start = file.at;
            if (lacks(4)) {
                return;
            }
            long first = 0;
            for (int k = 0; k < 4; k++) {
                first = first * 256 + file.next();
            }
            if (first != HEAD) {
                fail(FAULT_START, start);
                return;
            }
            if (lacks(1)) {
                return;
            }
            int marks = file.next();
            if ((marks & ~headMost) != 0) {
                fail(FAULT_HEAD, start + 4);
                return;
            }
            headMarks = marks;
            if ((marks & HEAD_TABLE) != 0) {
                readTableHead();
            }
        }

        private void readTableHead() {
            long n = readBig();
            tablePlace = file.at;
            if (n < 0 || lacks(n)) {
                return;
            }
            tableSize = (int) n;
            if (n < 2 || file.next() > NEAR_MOST || file.next() > SAME_MOST) {
                fail(FAULT_TABLE, tablePlace);
            }
        }

        boolean wantsTable() {
            return fault == NO_FAULT && (headMarks & HEAD_TABLE) != 0;
        }

        /** The FILE that was given as TABLE has come out where this one's bytes are to come. */
        void takeTable(boolean opened) {
            int n = file.bytes.at(tablePlace);
            int s = file.bytes.at(tablePlace + 1);
            if (!opened || came.length() != TABLE_BYTES) {
                fail(FAULT_TABLE, tablePlace);
                return;
            }
            table.become(came, n, s);
            if (!table.isGood()) {
                table.becomeUsual();
                fail(FAULT_TABLE, tablePlace);
                return;
            }
            came.clear();
            caches.fit(n, s);
            log.count(TOLD_TABLE, 1);
            file.lay(file.bytes, tableEnd(), file.end);
        }

        void readAppendix() {
            if (fault != NO_FAULT || (headMarks & HEAD_APPENDIX) == 0) {
                return;
            }
            long n = readBig();
            if (n < 0 || lacks(n)) {
                return;
            }
            log.count(TOLD_APPENDIX, (int) n);
            file.pass((int) n);
        }

        void readWindows() {
            for (int k = 0; k < ROW_MOST && fault == NO_FAULT && file.left() > 0; k++) {
                int where = file.at;
                int marks = file.next();
                if (marks > 7 || (marks & 3) == 3) {
                    fail(FAULT_WINDOW, where);
                    return;
                }
                log.count(TOLD_WINDOWS, 1);
                if (readSegment(marks) && readSizes(marks)) {
                    runWindow();
                }
            }
        }

        private boolean readSegment(int marks) {
            space.lay(old, 0, 0, came);
            if ((marks & (WINDOW_OLD | WINDOW_CAME)) == 0) {
                return true;
            }
            int where = file.at;
            long size = readBig();
            if (size < 0) {
                return false;
            }
            long first = readBig();
            if (first < 0) {
                return false;
            }
            Row from = (marks & WINDOW_OLD) != 0 ? old : came;
            if (first + size > from.length()) {
                return fail(FAULT_SEGMENT, where);
            }
            space.lay(from, (int) first, (int) size, came);
            return true;
        }

        private boolean readSizes(int marks) {
            int followsPlace = file.at;
            long follows = readBig();
            int begin = file.at;
            if (follows < 0 || !readTargetSize()) {
                return false;
            }
            long dataSize = readBig();
            long codesSize = dataSize < 0 ? dataSize : readBig();
            long addressesSize = codesSize < 0 ? codesSize : readBig();
            if (addressesSize < 0) {
                return false;
            }
            int sumSize = (marks & WINDOW_SUM) != 0 ? 4 : 0;
            if (lacks(sumSize)) {
                return false;
            }
            int sumPlace = file.at;
            file.pass(sumSize);
            long parts = dataSize + codesSize + addressesSize;
            if (follows != file.at - begin + parts) {
                return fail(FAULT_FOLLOWS, followsPlace);
            }
            if (lacks(parts)) {
                return false;
            }
            layParts((int) dataSize, (int) codesSize, (int) addressesSize);
            sum.lay(file.bytes, sumPlace, sumPlace + sumSize);
            return true;
        }

        private boolean readTargetSize() {
            int where = file.at;
            long size = readBig();
            if (size < 0) {
                return false;
            }
            if (size > ROW_MOST - came.length()) {
                return fail(FAULT_ROOM, where);
            }
            targetSize = (int) size;
            if (lacks(1)) {
                return false;
            }
            int zeroPlace = file.at;
            return file.next() == 0 || fail(FAULT_ZERO, zeroPlace);
        }

        private void layParts(int dataSize, int codesSize, int addressesSize) {
            int codesPlace = file.at + dataSize;
            int addressesPlace = codesPlace + codesSize;
            data.lay(file.bytes, file.at, codesPlace);
            codes.lay(file.bytes, codesPlace, addressesPlace);
            addresses.lay(file.bytes, addressesPlace, addressesPlace + addressesSize);
            file.pass(dataSize + codesSize + addressesSize);
        }

        private void runWindow() {
            // Not before: behind a FAULT in a WINDOW's first bytes the latest instruction was in
            // the WINDOW before, and cache() tells what was there.
            caches.wipe();
            for (int k = 0; k < ROW_MOST && fault == NO_FAULT && codes.left() > 0; k++) {
                codePlace = codes.at;
                int code = codes.next();
                if (table.get(code, KIND) != NOTHING && table.get(code, SECOND + KIND) != NOTHING) {
                    log.count(TOLD_DOUBLES, 1);
                }
                if (runHalf(code, FIRST)) {
                    runHalf(code, SECOND);
                }
            }
            if (fault != NO_FAULT) {
                return;
            }
            if (space.targetLength() < targetSize || data.left() > 0 || addresses.left() > 0) {
                fail(FAULT_END, codes.at);
            } else {
                judgeSum();
            }
        }

        private void judgeSum() {
            if (sum.left() == 0) {
                return;
            }
            int where = sum.at;
            long toldSum = 0;
            for (int k = 0; k < 4; k++) {
                toldSum = toldSum * 256 + sum.next();
            }
            if (toldSum != space.sum()) {
                fail(FAULT_SUM, where);
            }
        }

        private boolean runHalf(int code, int half) {
            int kind = table.get(code, half + KIND);
            if (kind == NOTHING) {
                return true;
            }
            long size = table.get(code, half + SIZE);
            if (size == 0) {
                size = codes.nextBig();
            }
            if (size < 0) {
                return fail(FAULT_SIZE, codePlace);
            }
            if (size > targetSize - space.targetLength()) {
                return fail(FAULT_TARGET, codePlace);
            }
            if (kind == COPY) {
                return runCopy((int) size, table.get(code, half + MODE));
            }
            return kind == ADD ? runAdd((int) size) : runRun((int) size);
        }

        private boolean runAdd(int size) {
            if (size > data.left()) {
                return fail(FAULT_DATA, codePlace);
            }
            for (int k = 0; k < size; k++) {
                came.push(data.next());
            }
            log.through(ADD, size, -1, 0);
            return true;
        }

        private boolean runRun(int size) {
            int b = data.next();
            if (b < 0) {
                return fail(FAULT_DATA, codePlace);
            }
            for (int k = 0; k < size; k++) {
                came.push(b);
            }
            log.through(RUN, size, -1, 0);
            return true;
        }

        private boolean runCopy(int size, int mode) {
            int here = space.here();
            long wanted = wantedAddress(mode, here);
            if (wanted < 0 || wanted >= here) {
                return fail(FAULT_ADDRESS, codePlace);
            }
            int address = (int) wanted;
            for (int k = 0; k < size; k++) {
                came.push(space.at(address + k));
            }
            caches.keep(address);
            log.through(COPY, size, address, mode);
            return true;
        }

        /** Below 0 if ADDRESSES don't tell it, or if it is below 0. */
        private long wantedAddress(int mode, int here) {
            int sameMode = mode - MODE_NEAR - table.near;
            if (sameMode >= 0) {
                int b = addresses.next();
                return b < 0 ? b : caches.sameAt(SAME_SLOTS * sameMode + b);
            }
            long v = addresses.nextBig();
            if (v < 0 || mode == MODE_SELF) {
                return v;
            }
            return mode == MODE_HERE ? here - v : caches.nearAt(mode - MODE_NEAR) + v;
        }
    }

    /** Finds in SPACE what a place's bytes repeat. */
    private static final class Finder {
        private static final int HEADS = 1024;
        private final Row space = new Row(OLD_MOST + WINDOW_MOST);
        // Chains of places whose four bytes may be the same, the latest first; -1 ends them.
        private final int[] heads = new int[HEADS];
        private final int[] links = new int[OLD_MOST + WINDOW_MOST];
        private int entered;
        private int bestPlace;
        private int bestLength;

        void lay(Row segment, int place, int size, Row source, int from, int n) {
            space.clear();
            space.append(segment, place, size);
            space.append(source, from, n);
            Arrays.fill(heads, -1);
            entered = 0;
        }

        int at(int p) {
            return space.at(p);
        }

        int end() {
            return space.length();
        }

        int runLength(int p) {
            int n = 0;
            while (p + n < space.length() && space.at(p + n) == space.at(p)) {
                n++;
            }
            return n;
        }

        private int sameLength(int q, int p) {
            int n = 0;
            while (p + n < space.length() && space.at(q + n) == space.at(p + n)) {
                n++;
            }
            return n;
        }

        private int chainOf(int p) {
            int four = space.at(p) << 24 | space.at(p + 1) << 16 | space.at(p + 2) << 8 | space.at(p + 3);
            return (four * 0x9E3779B1 >>> 16) % HEADS;
        }

        private void enterUpTo(int p) {
            for (; entered < p && entered < links.length; entered++) {
                int chain = chainOf(entered);
                links[entered] = heads[chain];
                heads[chain] = entered;
            }
        }

        void search(int p) {
            bestPlace = -1;
            bestLength = 0;
            if (p < 0 || p + MATCH_LEAST > space.length()) {
                return;
            }
            enterUpTo(p);
            int q = heads[chainOf(p)];
            int seen = 0;
            for (int k = 0; k < links.length && q >= 0 && q < links.length && seen < MATCHES_MOST; k++) {
                int n = sameLength(q, p);
                if (n >= MATCH_LEAST) {
                    seen++;
                }
                if (n >= MATCH_LEAST && n > bestLength) {
                    bestLength = n;
                    bestPlace = q;
                }
                q = links[q];
            }
        }
    }

    /** The instructions of a WINDOW that is made. */
    private static final class Moves {
        private final int[] kinds = new int[MOVES_MOST];
        private final int[] sizes = new int[MOVES_MOST];
        private final int[] modes = new int[MOVES_MOST];
        private int count;

        void clear() {
            count = 0;
        }

        int length() {
            return count;
        }

        void push(int kind, int size, int mode) {
            if (count < MOVES_MOST) {
                kinds[count] = kind;
                sizes[count] = size;
                modes[count] = mode;
                count++;
            }
        }

        void pushAdded() {
            int last = count - 1;
            if (last >= 0 && kinds[last] == ADD && sizes[last] < ADD_MOST) {
                sizes[last]++;
            } else {
                push(ADD, 1, 0);
            }
        }

        int sizeOf(int i) {
            return i >= 0 && i < count ? sizes[i] : 0;
        }

        /** Whether one half of a code is instruction i, but for its size, which is to be the told one. */
        boolean isHalf(int i, Table table, int code, int half, int size) {
            return i >= 0 && i < count
                    && table.get(code, half + KIND) == kinds[i]
                    && table.get(code, half + SIZE) == size
                    && table.get(code, half + MODE) == modes[i];
        }
    }

    /** The codes of a TABLE by the SIZE of their first instruction, the least code first. */
    private static final class CodeIndex {
        private final int[] heads = new int[CODES];
        private final int[] links = new int[CODES];

        void lay(Table table) {
            Arrays.fill(heads, -1);
            for (int code = CODES - 1; code >= 0; code--) {
                int size = table.get(code, SIZE);
                if (isByte(size)) {
                    links[code] = heads[size];
                    heads[size] = code;
                }
            }
        }

        private int head(int size) {
            return isByte(size) ? heads[size] : -1;
        }

        int pairCode(Table table, Moves moves, int i) {
            int size = moves.sizeOf(i);
            int nextSize = moves.sizeOf(i + 1);
            int code = head(size);
            for (int k = 0; k < CODES && code >= 0 && code < CODES; k++) {
                if (moves.isHalf(i, table, code, FIRST, size)
                        && moves.isHalf(i + 1, table, code, SECOND, nextSize)) {
                    return code;
                }
                code = links[code];
            }
            return -1;
        }

        int singleCode(Table table, Moves moves, int i, int size) {
            int code = head(size);
            for (int k = 0; k < CODES && code >= 0 && code < CODES; k++) {
                if (table.get(code, SECOND + KIND) == NOTHING
                        && moves.isHalf(i, table, code, FIRST, size)) {
                    return code;
                }
                code = links[code];
            }
            return -1;
        }
    }

    /** Makes the WINDOWS of a FILE. */
    private static final class Maker {
        private final Finder finder = new Finder();
        private final Moves moves = new Moves();
        private final CodeIndex index = new CodeIndex();
        private final Caches caches = new Caches(NEAR_MOST, SAME_MOST);
        private final Row data = new Row(WINDOW_MOST);
        private final Row codes = new Row(3 * MOVES_MOST);
        private final Row addresses = new Row(2 * MOVES_MOST);

        /** Whether the TABLE could tell all; a file without room is made to its end for that. */
        boolean makeWindows(Row source, Row old, Table table, int marks, Row file) {
            index.lay(table);
            caches.fit(table.near, table.same);
            int sumMark = (marks & MARK_SUMS) != 0 ? WINDOW_SUM : 0;
            for (int from = 0; from < source.length(); from += WINDOW_MOST) {
                boolean ofCame = (marks & MARK_CAME) != 0 && from > 0;
                int segmentMark = old.length() > 0 ? WINDOW_OLD : ofCame ? WINDOW_CAME : 0;
                Row segment = segmentMark == WINDOW_OLD ? old : source;
                if (!makeWindow(source, from, segment, segmentMark | sumMark, table, file)) {
                    return false;
                }
            }
            return true;
        }

        private boolean makeWindow(
                Row source, int from, Row segment, int windowMarks, Table table, Row file) {
            int n = Math.min(WINDOW_MOST, source.length() - from);
            int place = 0;
            int size = 0;
            if ((windowMarks & WINDOW_OLD) != 0) {
                size = segment.length();
            } else if ((windowMarks & WINDOW_CAME) != 0) {
                place = from - WINDOW_MOST;
                size = WINDOW_MOST;
            }
            finder.lay(segment, place, size, source, from, n);
            findMoves(size);
            if (!tellCodes(table)) {
                return false;
            }
            file.push(windowMarks);
            if (size > 0) {
                file.pushBig(size);
                file.pushBig(place);
            }
            boolean summed = (windowMarks & WINDOW_SUM) != 0;
            tellSizes(file, n, summed ? 4 : 0);
            if (summed) {
                file.pushLowest(source.sum(from, from + n), 4);
            }
            file.append(data, 0, data.length());
            file.append(codes, 0, codes.length());
            file.append(addresses, 0, addresses.length());
            return true;
        }

        private void findMoves(int begin) {
            moves.clear();
            data.clear();
            addresses.clear();
            caches.wipe();
            int p = begin;
            for (int k = 0; k < WINDOW_MOST && p < finder.end(); k++) {
                finder.search(p);
                int run = finder.runLength(p);
                int copy = finder.bestLength;
                if (run >= MATCH_LEAST && copy <= run) {
                    moves.push(RUN, run, 0);
                    data.push(finder.at(p));
                    p += run;
                } else if (copy > 0) {
                    moves.push(COPY, copy, tellAddress(finder.bestPlace, p));
                    p += copy;
                } else {
                    moves.pushAdded();
                    data.push(finder.at(p));
                    p++;
                }
            }
        }

        /** Answers the MODE by which the address was told. */
        private int tellAddress(int address, int here) {
            int mode = MODE_SELF;
            int number = address;
            if (bigLength(here - address) < bigLength(number)) {
                mode = MODE_HERE;
                number = here - address;
            }
            for (int k = 0; k < caches.nearCount; k++) {
                int more = address - caches.nearAt(k);
                if (more >= 0 && bigLength(more) < bigLength(number)) {
                    mode = MODE_NEAR + k;
                    number = more;
                }
            }
            // An address has but one slot in same; an unused slot's 0 never beats MODE 0.
            int slot = caches.sameCount > 0 ? address % caches.sameCount : -1;
            if (slot >= 0 && caches.sameAt(slot) == address && bigLength(number) > 1) {
                mode = MODE_NEAR + caches.nearCount + slot / SAME_SLOTS;
                addresses.push(slot % SAME_SLOTS);
            } else {
                addresses.pushBig(number);
            }
            caches.keep(address);
            return mode;
        }

        private boolean tellCodes(Table table) {
            codes.clear();
            for (int i = 0; i < moves.length(); i++) {
                int code = index.pairCode(table, moves, i);
                if (code >= 0) {
                    codes.push(code);
                    i++;
                    continue;
                }
                code = index.singleCode(table, moves, i, moves.sizeOf(i));
                if (code >= 0) {
                    codes.push(code);
                    continue;
                }
                code = index.singleCode(table, moves, i, 0);
                if (code < 0) {
                    return false;
                }
                codes.push(code);
                codes.pushBig(moves.sizeOf(i));
            }
            return true;
        }

        private void tellSizes(Row file, int n, int sumSize) {
            int parts = data.length() + codes.length() + addresses.length();
            int sizes = bigLength(n) + 1 + bigLength(data.length())
                    + bigLength(codes.length()) + bigLength(addresses.length());
            file.pushBig(sizes + sumSize + parts);
            file.pushBig(n);
            file.push(0);
            file.pushBig(data.length());
            file.pushBig(codes.length());
            file.pushBig(addresses.length());
        }
    }
}
