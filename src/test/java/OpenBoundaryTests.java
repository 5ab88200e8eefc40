import java.util.Arrays;

/** Promise 15, BIG numbers and the FAULTS: each boundary that the document names, on both sides. */
public final class OpenBoundaryTests {
    private static final int[] NONE = Checks.NONE;
    private static final int[] HEAD = Checks.HEAD;
    private static final int[] TEN = Checks.bytes("0123456789");
    private static final int[] USUAL = Checks.usualBytes();
    private static final long BIG_MOST = 4294967295L;
    private static final int[] SAME_TABLE = Checks.join(
            HEAD, Checks.window(1, 1536, 0, 1536, NONE, Checks.ints(19, 140, 0), Checks.ints(0)));

    public static void main(String[] args) {
        missingBytes();
        firstFour();
        headByte();
        appendix();
        headNumbers();
        windowNumbers();
        sumsOfNumbers();
        tableSizes();
        tableNumbers();
        tableFaults();
        tableTakes();
        windowByte();
        segmentOfOld();
        segmentOfCame();
        follows();
        zeroByte();
        room();
        sizeNumbers();
        targetIsFull();
        dataIsUsed();
        addressIsBelowHere();
        addressesAreUsed();
        endOfInstructions();
        sums();
        orderOfFaults();
        emptyParts();
        whatOpenLeaves();
        Checks.finish();
    }

    private static void opens(String what, int size, int[]... file) {
        Checks.opens("15 " + what, Checks.rowOf(Checks.join(file)), size);
    }

    private static void faults(String what, int fault, int place, int[]... file) {
        Checks.faults("15 fault " + fault + ", " + what, Checks.rowOf(Checks.join(file)), fault, place);
    }

    private static void opensWithOld(String what, int[] old, int size, int[]... file) {
        Checks.opens("15 " + what, Checks.oldAndRow(old, Checks.join(file)), size);
    }

    private static void faultsWithOld(String what, int[] old, int fault, int place, int[]... file) {
        Checks.faults("15 fault " + fault + ", " + what, Checks.oldAndRow(old, Checks.join(file)), fault, place);
    }

    // ---- The head.

    /** A table, an appendix, a window of OLD with a sum, one of what came out with a sum, and one of neither. */
    private static void missingBytes() {
        int[] head = Checks.join(Checks.tableHead(6, 4, 3, SAME_TABLE), Checks.ints(3, 9, 9, 9));
        int[] first = Checks.summed(5, 6, 3, 10, Checks.sum(Checks.bytes("xy345678xy")),
                Checks.bytes("xy"), Checks.ints(3, 24), Checks.ints(0));
        int[] second = Checks.summed(6, 4, 2, 5, Checks.sum(Checks.bytes("34563")),
                Checks.bytes("3"), Checks.ints(247), Checks.ints(0));
        int[] third = Checks.plain(3, Checks.bytes("abc"), Checks.ints(4), NONE);
        int[] file = Checks.join(head, first, second, third);
        int[] ends = {head.length, head.length + first.length, head.length + first.length + second.length, file.length};
        int[] sizes = {0, 10, 15, 18};
        for (int n = 0; n <= file.length; n++) {
            int end = Arrays.binarySearch(ends, n);
            Checks.Steps cut = Checks.oldAndRow(TEN, Arrays.copyOf(file, n));
            if (end >= 0) {
                Checks.opens("15 all there, " + n + " bytes", cut, sizes[end]);
            } else {
                Checks.faults("15 fault 1, " + n + " bytes", cut, 1, n);
            }
        }
        Checks.due("15 all there: what came out", Checks.outBytes(Checks.then(Checks.oldAndRow(TEN, file), x -> x.open())),
                Checks.bytes("xy345678xy" + "34563" + "abc"));
        Checks.faults("15 fault 1, of an empty row", Checks.NEW, 1, 0);
    }

    private static void firstFour() {
        for (int i = 0; i < 4; i++) {
            int[] one = Checks.ints(1, -1, 128);
            for (int k : one) {
                faults("byte " + i, 2, 0, Checks.with(HEAD, i, HEAD[i] + k & 255));
                faults("byte " + i + " of four alone", 2, 0, Arrays.copyOf(Checks.with(HEAD, i, HEAD[i] + k & 255), 4));
            }
        }
        faults("four good ones alone", 1, 4, Checks.ints(214, 195, 196, 0));
        faults("before fault 4", 2, 0, Checks.ints(214, 195, 196, 1, 255));
    }

    private static void headByte() {
        for (int b = 0; b <= 255; b++) {
            if (b == 0) {
                opens("head byte 0", 0, Checks.head(b));
            } else if (b == 2 || b == 4 || b == 6) {
                faults("head byte " + b, 1, 5, Checks.head(b));
            } else {
                faults("head byte " + b, 4, 4, Checks.head(b));
            }
        }
    }

    private static void appendix() {
        for (int n : new int[] {0, 1, 127, 128, 7993}) {
            int[] file = Checks.join(Checks.head(4), Checks.big(n), Checks.times(n, 255));
            Checks.Steps made = x -> {
                Checks.feed(x, Checks.join(Checks.head(4), Checks.big(n)));
                for (int k = 0; k < n; k += 127) {
                    x.fill(Math.min(127, n - k), 3, 0);
                }
            };
            Checks.opens("15 an appendix of " + n, made, 0);
            Checks.taken("17 its size, " + n, Checks.then(made, x -> x.open()), x -> x.told(6), n);
            if (n > 0) {
                Checks.faults("15 fault 1, one byte of " + n + " missing",
                        Checks.then(made, x -> x.cut(file.length - 1)), 1, file.length - 1);
            }
        }
        opens("a window behind an appendix", 1, Checks.head(4), Checks.ints(2, 0, 9), Checks.plain(1, Checks.ints(7), Checks.ints(2), NONE));
        faults("a wrong window behind an appendix", 6, 8, Checks.head(4), Checks.ints(2, 0, 9, 8));
    }

    // ---- BIG numbers.

    private static int[] leading(int n) {
        return Checks.times(n, 128);
    }

    private static void headNumbers() {
        // The APPENDIX's size, behind 5 bytes; the TABLE's size there, too.
        for (int n = 1; n <= 5; n++) {
            opens("an appendix's size of " + n + " bytes", 0, Checks.head(4), Checks.bigOf(2, n), Checks.ints(7, 7));
            opens("a table's size of " + n + " bytes", 0, Checks.head(2), Checks.bigOf(2 + SAME_TABLE.length, n), Checks.ints(4, 3), SAME_TABLE);
            faults("a table behind a size of " + n + " bytes", 5, 5 + n, Checks.head(2), Checks.bigOf(2 + SAME_TABLE.length, n), Checks.ints(33, 3), SAME_TABLE);
        }
        for (int marks : new int[] {2, 4, 6}) {
            faults("no byte of a size, " + marks, 1, 5, Checks.head(marks));
            for (int n = 1; n <= 4; n++) {
                faults("a size that goes on, " + marks, 1, 5 + n, Checks.head(marks), leading(n));
                faults("a large size that goes on, " + marks, 1, 5 + n, Checks.head(marks), Checks.times(n, 255));
            }
            faults("the fifth byte has 128, " + marks, 3, 5, Checks.head(marks), leading(5));
            faults("the fifth byte has 128, and a sixth, " + marks, 3, 5, Checks.head(marks), leading(5), Checks.ints(2, 7, 7));
            faults("the most, " + marks, 1, 10, Checks.head(marks), Checks.bigOf(BIG_MOST, 5));
            faults("one more than the most, " + marks, 3, 5, Checks.head(marks), Checks.bigOf(BIG_MOST + 1, 5));
            faults("the most of five bytes, " + marks, 3, 5, Checks.head(marks), Checks.ints(255, 255, 255, 255, 127));
        }
        // The APPENDIX's size behind a TABLE.
        int[] tabled = Checks.tableHead(6, 4, 3, SAME_TABLE);
        faults("behind a table", 3, tabled.length, tabled, Checks.bigOf(BIG_MOST + 1, 5));
        faults("behind a table, the most", 1, tabled.length + 5, tabled, Checks.bigOf(BIG_MOST, 5));
    }

    private static final int SEGMENT_SIZE = 0;
    private static final int FOLLOWS = 2;
    private static final int TARGET = 3;
    private static final int LAST_NUMBER = 6;

    /** A window of OLD that brings xy345678xy, with one of its seven numbers told in another way. */
    private static int[] numbered(int which, int[] told) {
        int[][] numbers = {
            Checks.big(6), Checks.big(3), NONE, Checks.big(10), Checks.big(2), Checks.big(2), Checks.big(1)};
        numbers[which] = told;
        int[] parts = Checks.join(Checks.bytes("xy"), Checks.ints(3, 24), Checks.ints(0));
        if (which != FOLLOWS) {
            int n = 1 + parts.length;
            for (int k = TARGET; k <= LAST_NUMBER; k++) {
                n += numbers[k].length;
            }
            numbers[FOLLOWS] = Checks.big(n);
        }
        return Checks.join(HEAD, Checks.ints(1), numbers[0], numbers[1], numbers[2], numbers[3], Checks.ints(0),
                numbers[4], numbers[5], numbers[6], parts);
    }

    private static int placeOf(int which) {
        return 6 + which + (which > TARGET ? 1 : 0);
    }

    private static void windowNumbers() {
        int[] values = {6, 3, 10, 10, 2, 2, 1};
        int[] nextFaults = {7, 7, 8, 10, 8, 8, 8};
        for (int which = SEGMENT_SIZE; which <= LAST_NUMBER; which++) {
            int place = placeOf(which);
            String name = "number " + which;
            for (int n = 1; n <= 5; n++) {
                opensWithOld(name + " of " + n + " bytes", TEN, 10, numbered(which, Checks.bigOf(values[which], n)));
            }
            faultsWithOld(name + ", six bytes", TEN, 3, place, numbered(which, Checks.join(leading(5), Checks.ints(values[which]))));
            faultsWithOld(name + ", one more than the most", TEN, 3, place, numbered(which, Checks.bigOf(BIG_MOST + 1, 5)));
            faultsWithOld(name + ", the most of five bytes", TEN, 3, place, numbered(which, Checks.ints(255, 255, 255, 255, 127)));
            faultsWithOld(name + ", the fifth byte has 128", TEN, 3, place, numbered(which, Checks.times(5, 255)));
            int nextPlace = nextFaults[which] == 10 ? placeOf(TARGET) : nextFaults[which] == 8 ? placeOf(FOLLOWS) : 6;
            faultsWithOld(name + ", the most", TEN, nextFaults[which], nextPlace, numbered(which, Checks.bigOf(BIG_MOST, 5)));
            for (int n = 0; n <= 4; n++) {
                faultsWithOld(name + ", " + n + " bytes of it", TEN, 1, place + n,
                        Arrays.copyOf(numbered(which, leading(n)), place + n));
            }
            faultsWithOld(name + ", wrong in its last byte", TEN, 3, place,
                    Arrays.copyOf(numbered(which, leading(5)), place + 5));
        }
    }

    /** Sums that would wrap in 32 bits. */
    private static void sumsOfNumbers() {
        int[] most = Checks.bigOf(BIG_MOST, 5);
        faultsWithOld("size and place wrap to 1", TEN, 7, 6, HEAD, Checks.ints(1), most, Checks.ints(2));
        faultsWithOld("size and place wrap to 0", TEN, 7, 6, HEAD, Checks.ints(1, 1), most);
        faultsWithOld("size and place, the most", TEN, 7, 6, HEAD, Checks.ints(1), most, most);
        faultsWithOld("half of the range, twice", TEN, 7, 6, HEAD, Checks.ints(1), Checks.big(1L << 31), Checks.big(1L << 31));
        // 1 + 1 + 5 + 5 + 1 bytes of numbers; 2 (2^32 - 1) + 100 of parts: 111 in 32 bits.
        faults("parts wrap", 8, 6, HEAD, Checks.ints(0, 111, 0, 0), most, most, Checks.ints(100), Checks.times(99, 0));
        // As many as can be told follow: these are not there.
        faults("the most follow", 1, 21, HEAD, Checks.ints(0), most, Checks.ints(0, 0), Checks.bigOf(BIG_MOST - 9, 5), Checks.ints(0, 0, 7));
        faults("the most follow, one part more", 8, 6, HEAD, Checks.ints(0), most, Checks.ints(0, 0), Checks.bigOf(BIG_MOST - 9, 5), Checks.ints(0, 1, 7));
        faults("three parts, the most each", 8, 6, HEAD, Checks.ints(0), most, Checks.ints(0, 0), most, most, most);
    }

    // ---- The TABLE.

    private static void tableSizes() {
        faults("no bytes", 5, 6, Checks.head(2), Checks.ints(0));
        faults("no bytes, and more behind", 5, 6, Checks.head(2), Checks.ints(0, 4, 3), SAME_TABLE);
        faults("one byte", 5, 6, Checks.head(2), Checks.ints(1, 4));
        faults("one byte, and more behind", 5, 6, Checks.head(2), Checks.ints(1, 4, 3), SAME_TABLE);
        faults("two bytes", 5, 6, Checks.head(2), Checks.ints(2, 4, 3));
        faults("two bytes, and more behind", 5, 6, Checks.head(2), Checks.ints(2, 4, 3), SAME_TABLE);
        faults("a byte too few", 5, 6, Checks.head(2), Checks.ints(SAME_TABLE.length + 1, 4, 3), SAME_TABLE);
        opens("just all", 0, Checks.head(2), Checks.ints(SAME_TABLE.length + 2, 4, 3), SAME_TABLE);
        faults("a byte too many", 5, 6, Checks.head(2), Checks.ints(SAME_TABLE.length + 3, 4, 3), SAME_TABLE, Checks.ints(0));
        faults("a byte that is not there", 1, 28, Checks.head(2), Checks.ints(SAME_TABLE.length + 3, 4, 3), SAME_TABLE);
        for (int n : new int[] {0, 1, 1535, 1536, 1537, 2000}) {
            int[] bytes = Arrays.copyOf(USUAL, n);
            int[] file = Checks.tableHead(2, 4, 3, n == 0 ? HEAD : Checks.adds(bytes));
            if (n == 1536) {
                opens("a table of " + n + " bytes", 0, file);
            } else {
                faults("a table of " + n + " bytes", 5, n < 100 ? 6 : 7, file);
            }
        }
        int[] twoWindows = Checks.join(HEAD, Checks.window(1, 1000, 0, 1000, NONE, Checks.ints(19, 135, 104), Checks.ints(0)),
                Checks.window(1, 536, 1000, 536, NONE, Checks.ints(19, 132, 24), Checks.ints(0)));
        opens("a table of two windows", 0, Checks.tableHead(2, 4, 3, twoWindows));
    }

    private static void tableNumbers() {
        int[][] good = {{0, 7}, {0, 16}, {7, 0}, {32, 0}, {32, 16}, {31, 15}, {4, 3}};
        for (int[] one : good) {
            Checks.Steps file = Checks.rowOf(Checks.tableHead(2, one[0], one[1], SAME_TABLE));
            Checks.opens("15 N " + one[0] + ", S " + one[1], file, 0);
            Checks.taken("17 N " + one[0], Checks.then(file, x -> x.open()), x -> x.told(8), one[0]);
            Checks.taken("17 S " + one[1], Checks.then(file, x -> x.open()), x -> x.told(9), one[1]);
            Checks.taken("17 taken", Checks.then(file, x -> x.open()), x -> x.told(7), 1);
        }
        int[][] wrong = {{33, 3}, {33, 0}, {4, 17}, {0, 17}, {33, 17}, {255, 3}, {4, 255}, {128, 128}, {3, 3}, {4, 2}, {0, 6}, {6, 0}};
        for (int[] one : wrong) {
            Checks.Steps file = Checks.rowOf(Checks.tableHead(2, one[0], one[1], SAME_TABLE));
            Checks.faults("15 fault 5, N " + one[0] + ", S " + one[1], file, 5, 6);
            VcdiffForms x = Checks.made(Checks.then(file, y -> y.open()));
            Checks.toldIs("17 not taken, N " + one[0] + ", S " + one[1], x, 0, 0, 0, 0, 0, 0, 0, 0, 4, 3);
        }
        faults("N out of bounds of two bytes", 5, 6, Checks.head(2), Checks.ints(2, 33, 3));
    }

    private static void inTable(String what, int[]... file) {
        int[] given = Checks.tableHead(2, 5, 4, Checks.join(file));
        faults("in a table: " + what, 5, 6, given);
        VcdiffForms x = Checks.made(Checks.rowOf(given));
        x.open();
        Checks.toldIs("17 not taken, in a table: " + what, x, 0, 0, 0, 0, 0, 0, 0, 0, 4, 3);
        Checks.due("20 no near 4, in a table: " + what, x.cache(0, 4), -2);
    }

    private static void tableFaults() {
        int[] window = Arrays.copyOfRange(SAME_TABLE, 5, SAME_TABLE.length);
        for (int n = 0; n < SAME_TABLE.length; n++) {
            // What is behind the table's end is not the table's.
            inTable("fault 1, " + n + " bytes", Arrays.copyOf(SAME_TABLE, n));
            faults("in a table: fault 1, " + n + " bytes, and the others behind it", 5, 6,
                    Checks.tableHead(2, 4, 3, Arrays.copyOf(SAME_TABLE, n)), Arrays.copyOfRange(SAME_TABLE, n, SAME_TABLE.length));
        }
        inTable("fault 2", Checks.with(SAME_TABLE, 3, 1));
        inTable("fault 3", HEAD, Checks.ints(1), Checks.bigOf(BIG_MOST + 1, 5));
        inTable("fault 4", Checks.with(SAME_TABLE, 4, 1));
        inTable("fault 4, a table in it", Checks.tableHead(2, 4, 3, SAME_TABLE), window);
        inTable("fault 4, a table and an appendix in it", Checks.tableHead(6, 4, 3, SAME_TABLE), Checks.ints(0), window);
        inTable("fault 6", Checks.with(SAME_TABLE, 5, 3));
        inTable("fault 7", HEAD, Checks.window(1, 1537, 0, 1536, NONE, Checks.ints(19, 140, 0), Checks.ints(0)));
        inTable("fault 7, what came out", HEAD, Checks.window(2, 1, 0, 1536, NONE, Checks.ints(19, 140, 0), Checks.ints(0)));
        inTable("fault 8", Checks.with(SAME_TABLE, 9, SAME_TABLE[9] + 1));
        inTable("fault 9", Checks.with(SAME_TABLE, 12, 1));
        inTable("fault 10", SAME_TABLE, Checks.plain(6465, Checks.ints(0), Checks.join(Checks.ints(0), Checks.big(6465)), NONE));
        inTable("8000 bytes", SAME_TABLE, Checks.plain(6464, Checks.ints(0), Checks.join(Checks.ints(0), Checks.big(6464)), NONE));
        inTable("fault 11", HEAD, Checks.window(1, 1536, 0, 1536, NONE, Checks.ints(19, 140), Checks.ints(0)));
        inTable("fault 12", HEAD, Checks.window(1, 1536, 0, 1537, NONE, Checks.ints(19, 140, 0, 2), Checks.ints(0)));
        inTable("fault 13", HEAD, Checks.window(1, 1536, 0, 1535, NONE, Checks.ints(19, 140, 0), Checks.ints(0)));
        inTable("fault 14", HEAD, Checks.window(1, 1536, 0, 1536, NONE, Checks.ints(19, 140, 0), Checks.ints(140, 0)));
        inTable("fault 15", HEAD, Checks.window(1, 1536, 0, 1536, NONE, Checks.ints(19, 140, 0), Checks.ints(0, 0)));
        inTable("fault 16", HEAD, Checks.summed(5, 1536, 0, 1536, Checks.ints(0, 0, 0, 1), NONE, Checks.ints(19, 140, 0), Checks.ints(0)));
    }

    private static void tableTakes() {
        int[] window = Arrays.copyOfRange(SAME_TABLE, 5, SAME_TABLE.length);
        opens("a table with a sum", 0, Checks.tableHead(2, 4, 3, Checks.join(HEAD,
                Checks.summed(5, 1536, 0, 1536, Checks.sum(USUAL), NONE, Checks.ints(19, 140, 0), Checks.ints(0)))));
        int[] appended = Checks.join(Checks.head(4), Checks.ints(2, 8, 8), window);
        opens("a table with an appendix", 0, Checks.tableHead(2, 4, 3, appended));
        opens("a table's file with a window of no bytes", 0,
                Checks.tableHead(2, 4, 3, Checks.join(SAME_TABLE, Checks.plain(0, NONE, NONE, NONE))));
        // OLD of the table's file is the usual table, whatever the object has as OLD.
        int[] old = Checks.times(1600, 9);
        opensWithOld("a table with another OLD", old, 0, Checks.tableHead(2, 4, 3, SAME_TABLE));
        // It is opened by the usual one, whatever the given one is.
        Checks.opens("15 a table with another given one", x -> {
            x.given(0, 0);
            x.entry(19, 0, 1);
            Checks.feed(x, Checks.tableHead(2, 4, 3, SAME_TABLE));
        }, 0);
        // What came out of the table's file is not what came out of this one.
        faults("a segment of a table's bytes", 7, 29, Checks.tableHead(2, 4, 3, SAME_TABLE), Checks.window(2, 1, 0, 0, NONE, NONE, NONE));
        opens("8000 bytes behind a table", 8000, Checks.tableHead(2, 4, 3, SAME_TABLE), run(8000));
    }

    // ---- A WINDOW's first bytes.

    private static int[] run(int n) {
        return Checks.plain(n, Checks.ints(9), Checks.join(Checks.ints(0), Checks.big(n)), NONE);
    }

    private static void windowByte() {
        for (int b = 0; b <= 255; b++) {
            boolean good = b <= 6 && b != 3;
            int[] file = Checks.join(HEAD, Checks.ints(b));
            faults("a window's byte " + b, good ? 1 : 6, good ? 6 : 5, file);
            Checks.taken("17 windows whose first byte was good, " + b, Checks.then(Checks.rowOf(file), x -> x.open()),
                    x -> x.told(0), good ? 1 : 0);
            int second = HEAD.length + run(5).length;
            faults("a second window's byte " + b, good ? 1 : 6, good ? second + 1 : second, HEAD, run(5), Checks.ints(b));
        }
        int[] sumOfNone = Checks.ints(0, 0, 0, 1);
        opens("windows of all good bytes", 0, HEAD,
                Checks.plain(0, NONE, NONE, NONE), Checks.window(1, 0, 0, 0, NONE, NONE, NONE),
                Checks.window(2, 0, 0, 0, NONE, NONE, NONE),
                Checks.summed(4, 0, 0, 0, sumOfNone, NONE, NONE, NONE),
                Checks.summed(5, 0, 0, 0, sumOfNone, NONE, NONE, NONE),
                Checks.summed(6, 0, 0, 0, sumOfNone, NONE, NONE, NONE));
    }

    /** A window that has a segment and brings nothing. */
    private static int[] idle(int marks, int size, int place) {
        return Checks.window(marks, size, place, 0, NONE, NONE, NONE);
    }

    private static void segmentOfOld() {
        for (int n : new int[] {0, 1, 10, 4000}) {
            Checks.Steps old = x -> {
                x.fill(n, 1, 0);
                x.old();
                x.cut(0);
            };
            int[][] just = {{n, 0}, {0, n}, {n / 2, n - n / 2}, {Math.min(1, n), Math.max(n - 1, 0)}};
            for (int[] one : just) {
                Checks.opens("15 OLD of " + n + ", segment " + one[0] + " at " + one[1],
                        Checks.then(old, Checks.rowOf(Checks.join(HEAD, idle(1, one[0], one[1])))), 0);
                Checks.faults("15 fault 7, OLD of " + n + ", size one more",
                        Checks.then(old, Checks.rowOf(Checks.join(HEAD, idle(1, one[0] + 1, one[1])))), 7, 6);
                Checks.faults("15 fault 7, OLD of " + n + ", place one more",
                        Checks.then(old, Checks.rowOf(Checks.join(HEAD, idle(1, one[0], one[1] + 1)))), 7, 6);
            }
        }
        faultsWithOld("before how many bytes follow", TEN, 7, 6, HEAD, Checks.ints(1, 11, 0));
        faultsWithOld("before a wrong number", TEN, 7, 6, HEAD, Checks.ints(1, 11, 0), leading(5));
        opensWithOld("the last byte of OLD", TEN, 4, HEAD, Checks.window(1, 1, 9, 4, NONE, Checks.ints(20), Checks.ints(0)));
        Checks.due("15 it comes", Checks.outBytes(Checks.then(Checks.oldAndRow(TEN,
                Checks.join(HEAD, Checks.window(1, 1, 9, 4, NONE, Checks.ints(20), Checks.ints(0)))), x -> x.open())), Checks.bytes("9999"));
    }

    private static void segmentOfCame() {
        opensWithOld("nothing came yet", TEN, 0, HEAD, idle(2, 0, 0));
        faultsWithOld("nothing came yet, one byte", TEN, 7, 6, HEAD, idle(2, 1, 0));
        faultsWithOld("nothing came yet, place 1", TEN, 7, 6, HEAD, idle(2, 0, 1));
        int[] first = run(5);
        int place = 5 + first.length + 1;
        int[][] just = {{5, 0}, {0, 5}, {3, 2}, {1, 4}};
        for (int[] one : just) {
            opens("what came out, segment " + one[0] + " at " + one[1], 5, HEAD, first, idle(2, one[0], one[1]));
            faults("what came out, size one more", 7, place, HEAD, first, idle(2, one[0] + 1, one[1]));
            faults("what came out, place one more", 7, place, HEAD, first, idle(2, one[0], one[1] + 1));
        }
        opens("what came out of two windows", 15, HEAD, first, first, Checks.window(2, 10, 0, 5, NONE, Checks.ints(21), Checks.ints(5)));
        faults("what came out of two windows, one more", 7, 5 + 2 * first.length + 1, HEAD, first, first, idle(2, 11, 0));
        // Of this FILE: not of an earlier one, nor of OLD.
        Checks.faults("15 fault 7, what came out of an earlier one", Checks.then(x -> Checks.busy(x), x -> {
            x.cut(0);
            Checks.feed(x, Checks.join(HEAD, idle(2, 1, 0)));
        }), 7, 6);
        Checks.Steps copied = Checks.rowOf(Checks.join(HEAD, Checks.plain(3, Checks.bytes("abc"), Checks.ints(4), NONE),
                Checks.window(2, 1, 2, 5, Checks.bytes("x"), Checks.ints(2, 20), Checks.ints(0))));
        Checks.due("15 the last byte of what came out", Checks.outBytes(Checks.then(copied, x -> x.open())), Checks.bytes("abcxcxcx"));
    }

    private static void follows() {
        int[] window = Checks.plain(3, Checks.bytes("abc"), Checks.ints(4), NONE);
        opens("just as many follow", 3, HEAD, window);
        for (int k : new int[] {-9, -1, 1, 100}) {
            faults(k + " more are said to follow", 8, 6, HEAD, Checks.with(window, 1, window[1] + k));
            faults(k + " more are said to follow, and are there", 8, 6, HEAD, Checks.with(window, 1, window[1] + k), Checks.times(100, 0));
        }
        // DATA, INSTRUCTIONS, ADDRESSES one more or one fewer.
        for (int i = 4; i <= 6; i++) {
            faults("part " + (i - 4) + " one more", 8, 6, HEAD, Checks.with(window, i, window[i] + 1));
            if (window[i] > 0) {
                faults("part " + (i - 4) + " one fewer", 8, 6, HEAD, Checks.with(window, i, window[i] - 1));
            }
        }
        // Before the three parts are looked for; but behind the SUM's bytes.
        faults("before the parts are looked for", 8, 6, HEAD, Checks.ints(0, 8, 3, 0, 3, 1, 0));
        faults("of the parts", 1, 12, HEAD, Checks.ints(0, 9, 3, 0, 3, 1, 0));
        faults("of the parts, the last one", 1, 15, HEAD, Checks.ints(0, 9, 3, 0, 3, 1, 0, 'a', 'b', 'c'));
        for (int n = 0; n <= 3; n++) {
            faults(n + " of the sum's bytes", 1, 12 + n, HEAD, Checks.ints(4, 99, 3, 0, 3, 1, 0), Checks.times(n, 1));
        }
        faults("behind the sum's bytes", 8, 6, HEAD, Checks.ints(4, 99, 3, 0, 3, 1, 0), Checks.times(4, 1));
        int[] summed = Checks.summed(4, 0, 0, 3, Checks.sum(Checks.bytes("abc")), Checks.bytes("abc"), Checks.ints(4), NONE);
        opens("a sum's bytes follow, too", 3, HEAD, summed);
        faults("without the sum's bytes", 8, 6, HEAD, Checks.with(summed, 1, summed[1] - 4));
        int second = 5 + window.length + 1;
        faults("in a second window", 8, second, HEAD, window, Checks.with(window, 1, window[1] + 1));
    }

    private static void zeroByte() {
        int[] window = Checks.plain(3, Checks.bytes("abc"), Checks.ints(4), NONE);
        for (int b : new int[] {1, 2, 4, 7, 128, 255}) {
            faults("the byte is " + b, 9, 8, HEAD, Checks.with(window, 3, b));
            faults("the byte is " + b + " and the last one", 9, 8, HEAD, Checks.ints(0, 9, 3, b));
            faults("the byte is " + b + ", behind a longer target's size", 9, 9, HEAD, Checks.ints(0, 9, 129, 0, b));
        }
        opens("the byte is 0", 3, HEAD, window);
        faults("before a wrong number", 9, 8, HEAD, Checks.ints(0, 9, 3, 1), leading(5));
    }

    private static void room() {
        opens("8000 bytes", 8000, HEAD, run(8000));
        faults("8001 bytes", 10, 7, HEAD, run(8001));
        int[] most = Checks.join(HEAD, run(7999));
        opens("7999 and one", 8000, most, run(1));
        faults("7999 and two", 10, most.length + 2, most, run(2));
        int[] full = Checks.join(HEAD, run(8000));
        opens("8000 and none", 8000, full, Checks.plain(0, NONE, NONE, NONE));
        faults("8000 and one", 10, full.length + 2, full, run(1));
        faults("when it is told, before the bytes behind it", 10, 7, HEAD, Checks.ints(0, 9, 190, 65));
        faults("8000 is taken, and bytes behind it are missed", 1, 9, HEAD, Checks.ints(0, 9, 190, 64));
        opens("8000 of a segment of what came", 8000, HEAD, run(4000),
                Checks.window(2, 4000, 0, 4000, NONE, Checks.join(Checks.ints(19), Checks.big(4000)), Checks.ints(0)));
        Checks.leaves("15 fault 10 leaves", Checks.then(x -> Checks.busy(x), x -> { x.cut(0); Checks.feed(x, Checks.join(full, run(1))); }),
                x -> x.open());
    }

    // ---- INSTRUCTIONS. Behind 5 bytes of head and 7 of a plain window DATA begin at 12.

    private static void sizeNumbers() {
        int[] data = Checks.bytes("abcd");
        for (int n = 1; n <= 5; n++) {
            opens("a SIZE's number of " + n + " bytes", 4, HEAD, Checks.plain(4, data, Checks.join(Checks.ints(1), Checks.bigOf(4, n)), NONE));
        }
        for (int n = 0; n <= 4; n++) {
            faults("a SIZE's number, " + n + " bytes of it", 11, 16, HEAD, Checks.plain(4, data, Checks.join(Checks.ints(1), leading(n)), NONE));
            faults("a SIZE's number, " + n + " bytes of it, the others in ADDRESSES", 11, 16, HEAD,
                    Checks.plain(4, data, Checks.join(Checks.ints(1), leading(n)), Checks.ints(4)));
        }
        faults("a SIZE's number, the fifth byte has 128", 11, 16, HEAD,
                Checks.plain(4, data, Checks.join(Checks.ints(1), leading(5), Checks.ints(4)), NONE));
        faults("a SIZE's number, one more than the most", 11, 16, HEAD,
                Checks.plain(4, data, Checks.join(Checks.ints(1), Checks.bigOf(BIG_MOST + 1, 5)), NONE));
        faults("a SIZE's number, the most", 13, 16, HEAD,
                Checks.plain(4, data, Checks.join(Checks.ints(1), Checks.bigOf(BIG_MOST, 5)), NONE));
        faults("of a second code", 11, 17, HEAD, Checks.plain(4, data, Checks.ints(2, 1), NONE));
        faults("of RUN", 11, 16, HEAD, Checks.plain(4, data, Checks.ints(0), NONE));
        faults("of COPY", 11, 17, HEAD, Checks.plain(4, data, Checks.ints(2, 19), Checks.ints(0)));
        secondNumber();
        pairs();
    }

    /** Each of the three first, each of them second. */
    private static void pairs() {
        int[][] halves = {{1, 2, 0}, {2, 3, 0}, {3, 4, 0}};
        String[] names = {"A2", "R3", "C4@0m0"};
        int[] dataSizes = {2, 1, 0};
        for (int i = 0; i < 3; i++) {
            for (int k = 0; k < 3; k++) {
                int[] table = USUAL.clone();
                Checks.lay(table, 200, Checks.join(halves[i], halves[k]));
                int n = 1 + halves[i][1] + halves[k][1];
                int[] window = Checks.plain(n, Checks.times(1 + dataSizes[i] + dataSizes[k], 7), Checks.ints(2, 200),
                        Checks.times(i / 2 + k / 2, 0));
                VcdiffForms x = Checks.made(Checks.rowOf(Checks.join(Checks.tableHead(2, 4, 3, Checks.adds(table)), window)));
                Checks.due("15 a code of " + names[i] + " and " + names[k], x.open(), n);
                Checks.due("18 a code of " + names[i] + " and " + names[k], Checks.instructions(x), "A1 " + names[i] + " " + names[k]);
                Checks.due("17 a code of " + names[i] + " and " + names[k], x.told(4), 1);
            }
        }
    }

    /** Code 7 is ADD and RUN, both of a told size. */
    private static void secondNumber() {
        Checks.Steps head = x -> {
            x.entry(7, 1, 0);
            x.entry(7, 3, 2);
            x.make(2);
            x.swap();
        };
        int begin = Checks.made(head).size();
        int[] data = Checks.bytes("abz");
        Checks.opens("15 both numbers", Checks.then(head, Checks.rowOf(Checks.plain(5, data, Checks.ints(7, 2, 3), NONE))), 5);
        Checks.faults("15 fault 11, no number", Checks.then(head, Checks.rowOf(Checks.plain(5, data, Checks.ints(7), NONE))), 11, begin + 10);
        Checks.faults("15 fault 11, no second number",
                Checks.then(head, Checks.rowOf(Checks.plain(5, data, Checks.ints(7, 2), NONE))), 11, begin + 10);
        Checks.faults("15 fault 11, half of the second number",
                Checks.then(head, Checks.rowOf(Checks.plain(5, data, Checks.ints(7, 2, 128), NONE))), 11, begin + 10);
        Checks.faults("15 fault 11, a wrong second number",
                Checks.then(head, Checks.rowOf(Checks.plain(5, data, Checks.join(Checks.ints(7, 2), leading(5), Checks.ints(3)), NONE))),
                11, begin + 10);
        Checks.opens("15 both numbers are 0",
                Checks.then(head, Checks.rowOf(Checks.plain(0, Checks.ints('z'), Checks.ints(7, 0, 0), NONE))), 0);
    }

    private static void targetIsFull() {
        int[] data = Checks.bytes("abcdef");
        opens("ADD fills it", 4, HEAD, Checks.plain(4, Checks.bytes("abcd"), Checks.ints(5), NONE));
        faults("ADD of one more", 13, 18, HEAD, Checks.plain(4, data, Checks.ints(6), NONE));
        faults("ADD of a told size of one more", 13, 18, HEAD, Checks.plain(4, data, Checks.ints(1, 5), NONE));
        opens("RUN fills it", 4, HEAD, Checks.plain(4, Checks.ints('a'), Checks.ints(0, 4), NONE));
        faults("RUN of one more", 13, 13, HEAD, Checks.plain(4, Checks.ints('a'), Checks.ints(0, 5), NONE));
        opens("COPY fills it", 5, HEAD, Checks.plain(5, Checks.ints('a'), Checks.ints(2, 20), Checks.ints(0)));
        faults("COPY of one more", 13, 14, HEAD, Checks.plain(4, Checks.ints('a'), Checks.ints(2, 20), Checks.ints(0)));
        faults("the second of a code", 13, 13, HEAD, Checks.plain(4, Checks.ints('a'), Checks.ints(163), Checks.ints(0)));
        opens("the second of a code fills it", 5, HEAD, Checks.plain(5, Checks.ints('a'), Checks.ints(163), Checks.ints(0)));
        faults("ADD when it is full", 13, 16, HEAD, Checks.plain(2, Checks.bytes("abc"), Checks.ints(3, 2), NONE));
        opens("ADD of none when it is full", 2, HEAD, Checks.plain(2, Checks.bytes("ab"), Checks.ints(3, 1, 0), NONE));
        opens("RUN of none when it is full", 2, HEAD, Checks.plain(2, Checks.bytes("abz"), Checks.ints(3, 0, 0), NONE));
        opens("COPY of none when it is full", 2, HEAD, Checks.plain(2, Checks.bytes("ab"), Checks.ints(3, 19, 0), Checks.ints(1)));
        // The target's size, not what came out in all, nor what the segment has.
        opensWithOld("behind a segment", TEN, 10, HEAD, Checks.window(1, 10, 0, 10, NONE, Checks.ints(26), Checks.ints(0)));
        faultsWithOld("behind a segment", TEN, 13, 14, HEAD, Checks.window(1, 10, 0, 9, NONE, Checks.ints(26), Checks.ints(0)));
        int[] one = run(5);
        faults("in a second window", 13, 5 + one.length + 8, HEAD, one, Checks.plain(4, Checks.ints('a'), Checks.ints(0, 5), NONE));
    }

    private static void dataIsUsed() {
        for (int n = 1; n <= 17; n++) {
            opens("ADD " + n, n, HEAD, Checks.plain(n, Checks.times(n, 7), Checks.ints(n + 1), NONE));
            faults("ADD " + n + ", one byte too few", 12, 12 + n - 1, HEAD, Checks.plain(n, Checks.times(n - 1, 7), Checks.ints(n + 1), NONE));
        }
        opens("RUN's byte", 3, HEAD, Checks.plain(3, Checks.ints('a'), Checks.ints(0, 3), NONE));
        faults("no byte for RUN", 12, 12, HEAD, Checks.plain(3, NONE, Checks.ints(0, 3), NONE));
        faults("no byte for a second RUN", 12, 15, HEAD, Checks.plain(4, Checks.ints('a'), Checks.ints(0, 3, 0, 1), NONE));
        faults("no byte for a RUN of none", 12, 12, HEAD, Checks.plain(0, NONE, Checks.ints(0, 0), NONE));
        opens("ADD of none needs none", 0, HEAD, Checks.plain(0, NONE, Checks.ints(1, 0), NONE));
        // DATA end where INSTRUCTIONS begin.
        faults("the rest is in INSTRUCTIONS", 12, 14, HEAD, Checks.plain(3, Checks.bytes("ab"), Checks.ints(4), NONE));
    }

    private static void addressIsBelowHere() {
        int[] a = Checks.ints('a', 'b', 'c');
        // HERE is 3 at the COPY of 4 by each MODE; its code's place is 16.
        opens("MODE 0, HERE less one", 7, HEAD, Checks.plain(7, a, Checks.ints(4, 20), Checks.ints(2)));
        faults("MODE 0, HERE", 14, 16, HEAD, Checks.plain(7, a, Checks.ints(4, 20), Checks.ints(3)));
        opens("MODE 0, 0", 7, HEAD, Checks.plain(7, a, Checks.ints(4, 20), Checks.ints(0)));
        faults("MODE 0, the most", 14, 16, HEAD, Checks.plain(7, a, Checks.ints(4, 20), Checks.bigOf(BIG_MOST, 5)));
        opens("MODE 1, 1", 7, HEAD, Checks.plain(7, a, Checks.ints(4, 36), Checks.ints(1)));
        faults("MODE 1, 0", 14, 16, HEAD, Checks.plain(7, a, Checks.ints(4, 36), Checks.ints(0)));
        opens("MODE 1, HERE", 7, HEAD, Checks.plain(7, a, Checks.ints(4, 36), Checks.ints(3)));
        faults("MODE 1, HERE and one", 14, 16, HEAD, Checks.plain(7, a, Checks.ints(4, 36), Checks.ints(4)));
        faults("MODE 1, the most", 14, 16, HEAD, Checks.plain(7, a, Checks.ints(4, 36), Checks.bigOf(BIG_MOST, 5)));
        // Behind a COPY of 4 from 2 on near 0 is 2, HERE is 7, and the code's place is 17.
        opens("near, HERE less one", 11, HEAD, Checks.plain(11, a, Checks.ints(4, 20, 52), Checks.ints(2, 4)));
        faults("near, HERE", 14, 17, HEAD, Checks.plain(11, a, Checks.ints(4, 20, 52), Checks.ints(2, 5)));
        faults("near, wrapping to 1", 14, 17, HEAD, Checks.plain(11, a, Checks.ints(4, 20, 52), Checks.join(Checks.ints(2), Checks.bigOf(BIG_MOST, 5))));
        faults("near, in half of the range", 14, 17, HEAD, Checks.plain(11, a, Checks.ints(4, 20, 52), Checks.join(Checks.ints(2), Checks.bigOf((1L << 31) - 1, 5))));
        opens("same, an unused one is 0", 7, HEAD, Checks.plain(7, a, Checks.ints(4, 116), Checks.ints(255)));
        opens("same, the last one", 7, HEAD, Checks.plain(7, a, Checks.ints(4, 148), Checks.ints(255)));
        // With nothing in SPACE HERE is 0: no address is below it.
        for (int mode = 0; mode < 9; mode++) {
            faults("an empty SPACE, MODE " + mode, 14, 12, HEAD, Checks.plain(4, NONE, Checks.ints(20 + 16 * mode), Checks.ints(0)));
            faults("an empty SPACE, MODE " + mode + ", a COPY of 0", 14, 12, HEAD,
                    Checks.plain(0, NONE, Checks.ints(19 + 16 * mode, 0), Checks.ints(0)));
            opens("one byte, MODE " + mode + ", a COPY of 0", 1, HEAD,
                    Checks.plain(1, Checks.ints('a'), Checks.ints(2, 19 + 16 * mode, 0), Checks.ints(mode == 1 ? 1 : 0)));
        }
        faults("a COPY of 0 from HERE", 14, 14, HEAD, Checks.plain(1, Checks.ints('a'), Checks.ints(2, 19, 0), Checks.ints(1)));
        faults("a COPY of 0 from below 0", 14, 14, HEAD, Checks.plain(1, Checks.ints('a'), Checks.ints(2, 35, 0), Checks.ints(2)));
        // Near of 2 less what a missing or wrong number might stand for.
        faults("near, no number", 14, 17, HEAD, Checks.plain(11, a, Checks.ints(4, 20, 52), Checks.ints(2)));
        faults("near, half of a number", 14, 17, HEAD, Checks.plain(11, a, Checks.ints(4, 20, 52), Checks.ints(2, 128)));
        faults("near, a wrong number", 14, 17, HEAD, Checks.plain(11, a, Checks.ints(4, 20, 52), Checks.join(Checks.ints(2), leading(5), Checks.ints(0))));
        inSegment();
        cachesAtFirst();
    }

    /** The caches are 0 at a window's first instruction, though the window before had others. */
    private static void cachesAtFirst() {
        int[] before = Checks.plain(9, Checks.bytes("abcde"), Checks.ints(6, 20), Checks.ints(3));
        for (int mode = 2; mode < 9; mode++) {
            int[] window = Checks.window(1, 6, 3, 4, NONE, Checks.ints(20 + 16 * mode), Checks.ints(mode < 6 ? 1 : 3));
            String want = mode < 6 ? "4567" : "3456";
            Checks.due("15 the first instruction, MODE " + mode, Checks.outBytes(Checks.then(
                    Checks.oldAndRow(TEN, Checks.join(HEAD, window)), x -> x.open())), Checks.bytes(want));
            Checks.due("15 a second window's first instruction, MODE " + mode, Checks.outBytes(Checks.then(
                    Checks.oldAndRow(TEN, Checks.join(HEAD, before, window)), x -> x.open())), Checks.bytes("abcdedede" + want));
        }
    }

    private static void inSegment() {
        // A segment of 4 bytes: HERE is 4 at once, and 8 behind the first COPY. The codes begin at 14.
        int[] just = Checks.window(1, 4, 3, 4, NONE, Checks.ints(20), Checks.ints(3));
        opensWithOld("the segment's last byte", TEN, 4, HEAD, just);
        Checks.due("15 the segment's last byte, and what comes", Checks.outBytes(Checks.then(
                Checks.oldAndRow(TEN, Checks.join(HEAD, just)), x -> x.open())), Checks.bytes("6666"));
        faultsWithOld("behind the segment", TEN, 14, 14, HEAD, Checks.window(1, 4, 3, 4, NONE, Checks.ints(20), Checks.ints(4)));
        opensWithOld("the target's last byte", TEN, 8, HEAD, Checks.window(1, 4, 3, 8, NONE, Checks.ints(20, 20), Checks.ints(0, 7)));
        faultsWithOld("behind the target", TEN, 14, 15, HEAD, Checks.window(1, 4, 3, 8, NONE, Checks.ints(20, 20), Checks.ints(0, 8)));
        opensWithOld("MODE 1, the segment's first byte", TEN, 4, HEAD, Checks.window(1, 4, 3, 4, NONE, Checks.ints(36), Checks.ints(4)));
        faultsWithOld("MODE 1, before the segment", TEN, 14, 14, HEAD, Checks.window(1, 4, 3, 4, NONE, Checks.ints(36), Checks.ints(5)));
    }

    private static void addressesAreUsed() {
        int[] a = Checks.ints('a', 'b', 'c');
        for (int n = 1; n <= 5; n++) {
            opens("an address of " + n + " bytes", 7, HEAD, Checks.plain(7, a, Checks.ints(4, 20), Checks.bigOf(1, n)));
        }
        for (int mode = 0; mode < 9; mode++) {
            faults("no address, MODE " + mode, 14, 16, HEAD, Checks.plain(7, a, Checks.ints(4, 20 + 16 * mode), NONE));
            if (mode < 6) {
                for (int n = 1; n <= 4; n++) {
                    faults("half of an address, MODE " + mode, 14, 16, HEAD, Checks.plain(7, a, Checks.ints(4, 20 + 16 * mode), leading(n)));
                }
                faults("half of an address, and a window behind it, MODE " + mode, 14, 16, HEAD,
                        Checks.plain(7, a, Checks.ints(4, 20 + 16 * mode), leading(1)), Checks.ints(0, 5, 0, 0, 0, 0, 0));
                faults("the fifth byte has 128, MODE " + mode, 14, 16, HEAD,
                        Checks.plain(7, a, Checks.ints(4, 20 + 16 * mode), Checks.join(leading(5), Checks.ints(1))));
                faults("one more than the most, MODE " + mode, 14, 16, HEAD,
                        Checks.plain(7, a, Checks.ints(4, 20 + 16 * mode), Checks.bigOf(BIG_MOST + 1, 5)));
            } else {
                // A byte, though it has 128.
                opens("a byte of 128 and more, MODE " + mode, 7, HEAD, Checks.plain(7, a, Checks.ints(4, 20 + 16 * mode), Checks.ints(200)));
            }
        }
    }

    private static void endOfInstructions() {
        opens("the target is full", 3, HEAD, Checks.plain(3, Checks.bytes("abc"), Checks.ints(4), NONE));
        faults("the target is not full", 15, 16, HEAD, Checks.plain(4, Checks.bytes("abc"), Checks.ints(4), NONE));
        faults("DATA have more", 15, 17, HEAD, Checks.plain(3, Checks.bytes("abcd"), Checks.ints(4), NONE));
        faults("ADDRESSES have more", 15, 16, HEAD, Checks.plain(3, Checks.bytes("abc"), Checks.ints(4), Checks.ints(0)));
        opens("ADDRESSES are used", 5, HEAD, Checks.plain(5, Checks.ints('a'), Checks.ints(163), Checks.ints(0)));
        faults("ADDRESSES have one more", 15, 14, HEAD, Checks.plain(5, Checks.ints('a'), Checks.ints(163), Checks.ints(0, 0)));
        opens("nothing at all", 0, HEAD, Checks.plain(0, NONE, NONE, NONE));
        faults("no instructions, a target", 15, 12, HEAD, Checks.plain(1, NONE, NONE, NONE));
        faults("no instructions, DATA", 15, 13, HEAD, Checks.plain(0, Checks.ints(1), NONE, NONE));
        faults("no instructions, ADDRESSES", 15, 12, HEAD, Checks.plain(0, NONE, NONE, Checks.ints(1)));
        faults("in a first window, with a second one", 15, 16, HEAD,
                Checks.plain(4, Checks.bytes("abc"), Checks.ints(4), NONE), Checks.plain(0, NONE, NONE, NONE));
    }

    private static void sums() {
        int[] abc = Checks.bytes("abc");
        int[] sum = Checks.sum(abc);
        Checks.due("the test's own sum", sum, Checks.ints(2, 77, 1, 39));
        int[] window = Checks.summed(4, 0, 0, 3, sum, abc, Checks.ints(4), NONE);
        opens("the sum", 3, HEAD, window);
        for (int i = 7; i < 11; i++) {
            for (int k : new int[] {1, -1, 128}) {
                faults("the sum's byte " + (i - 7), 16, 12, HEAD, Checks.with(window, i, window[i] + k & 255));
            }
        }
        opens("the sum of no bytes is 1", 0, HEAD, Checks.summed(4, 0, 0, 0, Checks.ints(0, 0, 0, 1), NONE, NONE, NONE));
        faults("the sum of no bytes is not 0", 16, 12, HEAD, Checks.summed(4, 0, 0, 0, Checks.ints(0, 0, 0, 0), NONE, NONE, NONE));
        // a goes round between 256 and 257 bytes of 255, b before that.
        for (int n : new int[] {1, 22, 23, 256, 257, 8000}) {
            int[] target = Checks.times(n, 255);
            int[] codes = Checks.join(Checks.ints(0), Checks.big(n));
            opens("the sum of " + n + " times 255", n, HEAD, Checks.summed(4, 0, 0, n, Checks.sum(target), Checks.ints(255), codes, NONE));
        }
        // Of the target alone: neither the segment nor what came before.
        int[] copy = Checks.summed(5, 6, 3, 6, Checks.sum(Checks.bytes("345678")), NONE, Checks.ints(22), Checks.ints(0));
        opensWithOld("the sum of a copy", TEN, 9, HEAD, window, copy);
        faultsWithOld("the place of a second window's sum", TEN, 16, 5 + window.length + 9, HEAD, window, Checks.with(copy, 12, copy[12] ^ 1));
    }

    private static void orderOfFaults() {
        int[] bad = Checks.ints(0, 0, 0, 0);
        faults("before 16: 11", 11, 16, HEAD, Checks.summed(4, 0, 0, 3, bad, NONE, Checks.ints(1), NONE));
        faults("before 16: 12", 12, 16, HEAD, Checks.summed(4, 0, 0, 3, bad, NONE, Checks.ints(4), NONE));
        faults("before 16: 13", 13, 16, HEAD, Checks.summed(4, 0, 0, 3, bad, NONE, Checks.ints(5), NONE));
        faults("before 16: 14", 14, 16, HEAD, Checks.summed(4, 0, 0, 4, bad, NONE, Checks.ints(20), NONE));
        faults("before 16: 15", 15, 20, HEAD, Checks.summed(4, 0, 0, 4, bad, Checks.bytes("abc"), Checks.ints(4), NONE));
        faults("before 12", 13, 12, HEAD, Checks.plain(2, NONE, Checks.ints(4), NONE));
        faults("before 12, RUN", 13, 12, HEAD, Checks.plain(2, NONE, Checks.ints(0, 3), NONE));
        faults("before 14", 13, 12, HEAD, Checks.plain(3, NONE, Checks.ints(20), NONE));
        faults("before 13", 11, 12, HEAD, Checks.plain(0, NONE, Checks.ints(1), NONE));
        faults("before 14 of a COPY", 11, 12, HEAD, Checks.plain(0, NONE, Checks.ints(19), NONE));
        faults("an earlier code's", 12, 12, HEAD, Checks.plain(3, NONE, Checks.ints(2, 1), NONE));
        faults("an earlier window's", 12, 12, HEAD, Checks.plain(3, NONE, Checks.ints(2, 1), NONE), Checks.ints(255));
        faults("6 before all of the window", 6, 5, HEAD, Checks.ints(8, 255, 255, 255, 255, 255));
        faults("10 before 8", 10, 7, HEAD, Checks.ints(0, 1, 190, 65, 0, 0, 0, 0));
        faults("9 before 8", 9, 8, HEAD, Checks.ints(0, 1, 0, 1, 0, 0, 0));
        faults("3 before 8", 3, 9, HEAD, Checks.ints(0, 1, 0, 0), leading(5));
        faults("4 before 5", 4, 4, Checks.tableHead(3, 33, 17, SAME_TABLE));
        faults("5 before an appendix's", 5, 6, Checks.tableHead(6, 33, 3, SAME_TABLE), leading(5));
        faults("5 before a window's", 5, 6, Checks.tableHead(2, 33, 3, SAME_TABLE), Checks.ints(255));
    }

    private static void emptyParts() {
        opens("ADD, RUN, COPY of none", 1, HEAD,
                Checks.plain(1, Checks.ints('a', 'b'), Checks.ints(2, 1, 0, 0, 0, 19, 0), Checks.ints(0)));
        Checks.Steps nothing = x -> {
            x.entry(9, 0, 0);
            x.entry(9, 1, 0);
            x.make(2);
            x.swap();
        };
        Checks.opens("15 codes of nothing", Checks.then(nothing, Checks.rowOf(Checks.plain(0, NONE, Checks.ints(9, 9, 9), NONE))), 0);
        int begin = Checks.made(nothing).size();
        Checks.faults("15 fault 15 behind codes of nothing",
                Checks.then(nothing, Checks.rowOf(Checks.plain(1, NONE, Checks.ints(9, 9, 9), NONE))), 15, begin + 10);
    }

    private static void whatOpenLeaves() {
        int[][] wrong = {
            NONE, Checks.times(5, 1), Checks.head(1), Checks.head(4), Checks.tableHead(2, 33, 3, SAME_TABLE),
            Checks.tableHead(2, 4, 3, Checks.adds(Arrays.copyOf(USUAL, 600))), Checks.join(HEAD, Checks.ints(8)),
            Checks.join(HEAD, run(50), idle(2, 51, 0)), Checks.join(HEAD, run(50), Checks.plain(3, NONE, Checks.ints(0, 3), NONE)),
            Checks.join(HEAD, run(50), Checks.summed(4, 0, 0, 2, Checks.ints(0, 0, 0, 0), Checks.ints(1), Checks.ints(0, 2), NONE))};
        int[] due = {1, 2, 4, 1, 5, 5, 6, 7, 12, 16};
        for (int k = 0; k < wrong.length; k++) {
            int[] file = wrong[k];
            Checks.Steps steps = x -> {
                Checks.busy(x);
                x.cut(0);
                Checks.feed(x, file);
            };
            Checks.taken("15 fault " + due[k], steps, x -> x.open(), -10 - due[k]);
            Checks.leaves("15 fault " + due[k] + " leaves", steps, x -> x.open());
        }
        Checks.Steps good = x -> {
            Checks.busy(x);
            x.cut(0);
            Checks.feed(x, Checks.join(Checks.tableHead(2, 7, 6, SAME_TABLE), run(50)));
        };
        Checks.Steps opened = Checks.then(good, x -> x.open());
        Checks.due("15 the row stays", Checks.rowBytes(opened), Checks.rowBytes(good));
        Checks.due("15 OLD stays", Checks.oldBytes(opened), Checks.oldBytes(good));
        Checks.due("15 the given table stays", Checks.tableBytes(opened, true), Checks.tableBytes(good, true));
        Checks.due("15 its numbers stay", Checks.givenNumbers(opened), Checks.givenNumbers(good));
        Checks.due("15 what came out", Checks.outBytes(opened), Checks.times(50, 9));
    }
}
