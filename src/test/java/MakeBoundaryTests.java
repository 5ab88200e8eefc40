import java.util.Arrays;

/** Promise 14 and TO MAKE a FILE: each boundary that the document names, on both sides. */
public final class MakeBoundaryTests {
    private static final int[] SAME_TABLE = Checks.join(
            Checks.HEAD, Checks.window(1, 1536, 0, 1536, Checks.NONE, Checks.ints(19, 140, 0), Checks.ints(0)));

    public static void main(String[] args) {
        marks();
        emptyRow();
        windows();
        segments();
        shortNumbers();
        sums();
        tableFile();
        rowSize();
        cannotTell();
        moreThan8000();
        orderOfRefusals();
        fourBytes();
        latestPlaces();
        withinTheTarget();
        runs();
        adds();
        addressLengths();
        nearRound();
        otherCaches();
        placesOfSame();
        cachesOfWindows();
        pairs();
        singles();
        Checks.finish();
    }

    private static Checks.Steps row(int n) {
        return x -> x.fill(n, 1, 0);
    }

    /** OLD of so many bytes without repetitions, and a row of so many other ones. */
    private static Checks.Steps oldAndRow(int old, int n) {
        return x -> {
            x.fill(old, 2, 0);
            x.old();
            x.cut(0);
            x.fill(n, 1, 0);
        };
    }

    private static void found(String what, String old, String row, String want) {
        Checks.due("14 " + what + ", '" + old + "' to '" + row + "'", Checks.found(Checks.texts(old, row), 0), want);
    }

    // ---- The call.

    private static void marks() {
        for (int marks = 0; marks <= 7; marks++) {
            int k = marks;
            Checks.Steps made = Checks.then(x -> Checks.busyWithRow(x, 2100), x -> x.make(k));
            VcdiffForms x = Checks.made(made);
            int size = Checks.outBytes(made).length;
            Checks.taken("14 make(" + marks + ")", y -> Checks.busyWithRow(y, 2100), y -> y.make(k), size);
            Checks.due("14 the row stays, make(" + marks + ")", Checks.rowBytes(made), Checks.filled(2100, 21, 1));
            Checks.due("14 OLD stays, make(" + marks + ")", Checks.oldBytes(made), Checks.filled(700, 5, 2));
            Checks.due("14 what is told of open() stays, make(" + marks + ")", x.told(0), 1);
            x.swap();
            Checks.due("14 it opens, make(" + marks + ")", x.open(), 2100);
            Checks.due("14 to the same row, make(" + marks + ")", Checks.outBytes(Checks.then(made, y -> { y.swap(); y.open(); })),
                    Checks.filled(2100, 21, 1));
        }
        for (int marks : new int[] {-1, 8, 9, 16, -8, Integer.MAX_VALUE, Integer.MIN_VALUE}) {
            Checks.refused("14 -2 make(" + marks + ")", x -> Checks.busy(x), x -> x.make(marks), -2);
        }
    }

    private static void emptyRow() {
        for (int marks = 0; marks <= 7; marks++) {
            int k = marks;
            int[] want = (marks & 2) == 0 ? Checks.HEAD : Checks.tableHead(2, 4, 3, SAME_TABLE);
            Checks.due("14 a row without bytes, make(" + marks + ")", Checks.outBytes(x -> x.make(k)), want);
            Checks.due("14 a row without bytes, with OLD, make(" + marks + ")",
                    Checks.outBytes(Checks.then(oldAndRow(4000, 0), x -> x.make(k))), want);
        }
    }

    private static void windows() {
        Object[][] cases = {
            {0, ""}, {1, "1"}, {2047, "2047"}, {2048, "2048"}, {2049, "2048 1"}, {4095, "2048 2047"}, {4096, "2048 2048"},
            {4097, "2048 2048 1"}, {6000, "2048 2048 1904"}};
        for (Object[] one : cases) {
            int n = (Integer) one[0];
            for (int marks : new int[] {0, 1, 2, 4, 7}) {
                Checks.due("14 targets of " + n + " bytes, make(" + marks + ")",
                        MadeFile.of(row(n), marks).targets(), (String) one[1]);
            }
            Checks.due("14 targets of " + n + " bytes with OLD", MadeFile.of(oldAndRow(300, n), 4).targets(), (String) one[1]);
        }
    }

    private static void segments() {
        Checks.due("14 no OLD", MadeFile.of(row(4097), 0).segments(), "none none none");
        Checks.due("14 no OLD, sums, table", MadeFile.of(row(4097), 3).segments(), "none none none");
        Checks.due("14 no OLD, MARKS 4", MadeFile.of(row(4097), 4).segments(), "none 2:2048@0 2:2048@2048");
        Checks.due("14 no OLD, MARKS 4, one window", MadeFile.of(row(2048), 4).segments(), "none");
        Checks.due("14 no OLD, MARKS 4, one byte more", MadeFile.of(row(2049), 4).segments(), "none 2:2048@0");
        for (int old : new int[] {1, 127, 128, 4000}) {
            String one = "1:" + old + "@0";
            for (int marks : new int[] {0, 4, 5}) {
                Checks.due("14 OLD of " + old + ", MARKS " + marks, MadeFile.of(oldAndRow(old, 4097), marks).segments(),
                        one + " " + one + " " + one);
            }
        }
        Checks.due("14 OLD that is empty again", MadeFile.of(x -> {
            x.fill(9, 2, 0);
            x.old();
            x.cut(0);
            x.old();
            x.fill(2049, 1, 0);
        }, 4).segments(), "none 2:2048@0");
    }

    private static void shortNumbers() {
        int[] sizes = {1, 110, 117, 118, 119, 120, 121, 122, 126, 127, 128, 129, 255, 256, 2047, 2048, 2049, 4096, 6000};
        for (int n : sizes) {
            for (int marks : new int[] {0, 1, 4, 7}) {
                MadeFile file = MadeFile.of(row(n), marks);
                Checks.due("14 numbers as short as can be, " + n + ", make(" + marks + ")", file.bytes, file.again());
            }
            MadeFile file = MadeFile.of(oldAndRow(128, n), 0);
            Checks.due("14 numbers as short as can be, with OLD, " + n, file.bytes, file.again());
        }
        Checks.due("14 a COPY of 127", MadeFile.of(copied(127), 0).last().codes, Checks.ints(19, 127));
        Checks.due("14 a COPY of 128", MadeFile.of(copied(128), 0).last().codes, Checks.ints(19, 129, 0));
        Checks.due("14 a COPY of 2048", MadeFile.of(copied(2048), 0).last().codes, Checks.ints(19, 144, 0));
        Checks.due("14 a RUN of 127", MadeFile.of(Checks.rowOf(Checks.times(127, 9)), 0).last().codes, Checks.ints(0, 127));
        Checks.due("14 a RUN of 128", MadeFile.of(Checks.rowOf(Checks.times(128, 9)), 0).last().codes, Checks.ints(0, 129, 0));
        Checks.due("14 an ADD of 127", MadeFile.of(row(127), 0).last().codes, Checks.ints(1, 127));
        Checks.due("14 an ADD of 128", MadeFile.of(row(128), 0).last().codes, Checks.ints(1, 129, 0));
    }

    /** A row that is the first bytes of OLD. */
    private static Checks.Steps copied(int n) {
        return x -> {
            x.fill(2100, 2, 0);
            x.old();
            x.cut(n);
        };
    }

    private static void sums() {
        for (int n : new int[] {1, 2048, 2049}) {
            int[] bytes = Checks.filled(n, 1, 0);
            MadeFile file = MadeFile.of(row(n), 1);
            Checks.due("14 MARKS 1, the first window's mark, " + n, file.windows.get(0).marks, 4);
            Checks.due("14 MARKS 1, the first window's sum, " + n, file.windows.get(0).sum,
                    Checks.sum(Arrays.copyOf(bytes, Math.min(n, 2048))));
            Checks.due("14 without MARKS 1, " + n, MadeFile.of(row(n), 0).windows.get(0).marks, 0);
        }
        Checks.due("14 the last window's sum", MadeFile.of(row(2049), 1).last().sum,
                Checks.sum(Checks.ints(Checks.filled(2049, 1, 0)[2048])));
        // a goes round at 65521: 1 + 257 times 255 is 65536.
        for (int n : new int[] {256, 257, 2048}) {
            Checks.due("14 a sum that goes round, " + n, MadeFile.of(Checks.rowOf(Checks.times(n, 255)), 1).last().sum,
                    Checks.sum(Checks.times(n, 255)));
        }
        Checks.due("14 a is 1 + 257 * 255 - 65521", MadeFile.of(Checks.rowOf(Checks.times(257, 255)), 1).last().sum[3], 15);
    }

    private static void tableFile() {
        Checks.Steps changed = x -> {
            x.fill(300, 1, 0);
            x.old();
            x.given(9, 2);
            x.entry(1, 1, 77);
            x.entry(255, 5, 0);
            x.entry(254, 0, 2);
            x.entry(254, 2, 0);
        };
        for (int marks : new int[] {2, 3, 6, 7}) {
            MadeFile file = MadeFile.of(changed, marks);
            Checks.due("14 N is told, make(" + marks + ")", file.near, 9);
            Checks.due("14 S is told, make(" + marks + ")", file.same, 2);
            MadeFile table = MadeFile.read(file.table);
            Checks.due("14 the table's file is one window", table.targets(), "1536");
            Checks.due("14 it is of the usual table, without a sum", table.windows.get(0).marks, 1);
            Checks.due("14 all of the usual table is its segment", table.segments(), "1:1536@0");
            Checks.due("14 its numbers are as short as can be", table.bytes, table.again());
        }
        Checks.due("14 without MARKS 2 no table", MadeFile.of(changed, 5).near, -1);
        // By the usual one, though the given one could not tell its own file: it has no COPY by MODE 0.
        Checks.Steps noCopies = x -> {
            for (int code = 19; code < 35; code++) {
                x.entry(code, 2, 1);
            }
        };
        Checks.due("14 the table's file is by the usual one", MadeFile.of(noCopies, 2).near, 4);
    }

    // ---- Refusals.

    private static void rowSize() {
        for (int marks = 0; marks <= 7; marks++) {
            int k = marks;
            VcdiffForms x = Checks.made(row(6000));
            Checks.due("14 6000 bytes, make(" + marks + ")", x.make(k) > 6000 ? 1 : 0, 1);
            Checks.taken("14 -4 6001 bytes, make(" + marks + ")", row(6001), y -> y.make(k), -4);
        }
        Checks.refused("14 -4 6001 bytes", x -> Checks.busyWithRow(x, 6001), x -> x.make(0), -4);
        Checks.refused("14 -4 6001 bytes, by the given table", x -> Checks.busyWithRow(x, 6001), x -> x.make(7), -4);
        Checks.refused("14 -4 8000 bytes", x -> Checks.busyWithRow(x, 8000), x -> x.make(5), -4);
    }

    private static int answer(Checks.Steps steps, int marks) {
        return Math.min(Checks.made(steps).make(marks), 0);
    }

    private static void cannotTell() {
        // Without the ADD of a told size: ADD of 1 .. 17 can be told, of 18 can't.
        Checks.Steps noAdd = x -> x.entry(1, 1, 1);
        Checks.due("14 ADD 17", answer(Checks.then(noAdd, row(17)), 2), 0);
        Checks.due("14 -3 ADD 18", answer(Checks.then(noAdd, row(18)), 2), -3);
        Checks.due("14 ADD 18 by the usual table", answer(Checks.then(noAdd, row(18)), 0), 0);
        // Without the COPY of a told size by MODE 0: 4 .. 18 can be told, 19 can't.
        Checks.Steps noCopy = x -> x.entry(19, 1, 4);
        Checks.due("14 COPY 18", answer(Checks.then(noCopy, copied(18)), 2), 0);
        Checks.due("14 -3 COPY 19", answer(Checks.then(noCopy, copied(19)), 2), -3);
        // Without RUN: three of a byte are an ADD, four can't be told.
        Checks.Steps noRun = x -> x.entry(0, 0, 1);
        Checks.due("14 no RUN", answer(Checks.then(noRun, Checks.rowOf(7, 7, 7)), 2), 0);
        Checks.due("14 -3 RUN", answer(Checks.then(noRun, Checks.rowOf(7, 7, 7, 7)), 2), -3);
        // A RUN of just 5.
        Checks.Steps runOf5 = x -> x.entry(0, 1, 5);
        Checks.due("14 -3 RUN 4", answer(Checks.then(runOf5, Checks.rowOf(7, 7, 7, 7)), 2), -3);
        Checks.due("14 RUN 5", answer(Checks.then(runOf5, Checks.rowOf(7, 7, 7, 7, 7)), 2), 0);
        Checks.due("14 -3 RUN 6", answer(Checks.then(runOf5, Checks.rowOf(7, 7, 7, 7, 7, 7)), 2), -3);
        Checks.due("14 a row without bytes needs no codes", answer(noRun, 2), 0);
        // In the last window alone.
        Checks.due("14 the first window can be told", answer(Checks.then(noRun, row(2048)), 2), 0);
        Checks.due("14 -3 the second can't", answer(Checks.then(noRun, x -> {
            x.fill(2048, 1, 0);
            x.feed(0, 4);
        }), 2), -3);
        Checks.refused("14 -3 can't tell", x -> {
            Checks.busy(x);
            x.entry(0, 0, 1);
            x.cut(0);
            x.fill(30, 4, 0);
            x.feed(0, 8);
        }, x -> x.make(2), -3);
        // MODES from 9 on have no codes: near 6 is MODE 8, near 7 is MODE 9.
        Checks.due("14 a COPY by near 6", answer(byNear(6), 2), 0);
        Checks.due("14 -3 a COPY by near 7", answer(byNear(7), 2), -3);
    }

    /** N 8, S 0: copies that go to near 0 .. last, then one that is told by the last alone. */
    private static Checks.Steps byNear(int last) {
        int[] pieces = new int[2 * last + 4];
        for (int k = 0; k < last; k++) {
            pieces[2 * k] = 10 + 5 * k;
            pieces[2 * k + 1] = 4;
        }
        pieces[2 * last] = 1000;
        pieces[2 * last + 1] = 4;
        pieces[2 * last + 2] = 1100;
        pieces[2 * last + 3] = 4;
        return Checks.then(x -> x.given(8, 0), ofPieces(2000, pieces));
    }

    /** Small copies and adds by a table without short codes for them, then bytes to add: n in all. */
    private static Checks.Steps longRow(int n) {
        return x -> {
            int[] old = Checks.filled(4000, 11, 0);
            x.fill(4000, 11, 0);
            x.old();
            x.cut(0);
            int[] bytes = new int[2040];
            for (int i = 0; i < bytes.length; i++) {
                int from = 200 + i / 5 * 777 % 3600;
                bytes[i] = i % 5 < 4 ? old[from + i % 5] : old[from + 4] ^ 1;
            }
            Checks.feed(x, bytes);
            x.again(0, 2040);
            x.again(0, 1500);
            x.fill(n - 5580, 77, 0);
            x.entry(2, 1, 0);
            for (int mode = 0; mode < 9; mode++) {
                x.entry(20 + 16 * mode, 1, 0);
                x.entry(mode < 6 ? 163 + 12 * mode : 235 + 4 * (mode - 6), 4, 99);
                x.entry(247 + mode, 4, 99);
            }
        };
    }

    private static final int LONG_8000 = 5671;

    private static void moreThan8000() {
        Checks.taken("14 7999 bytes come", longRow(LONG_8000 - 1), x -> x.make(2), 7999);
        Checks.taken("14 8000 bytes come", longRow(LONG_8000), x -> x.make(2), 8000);
        Checks.due("14 all of them are there", Checks.outBytes(Checks.then(longRow(LONG_8000), x -> x.make(2))).length, 8000);
        Checks.refused("14 -4 8001 would come", longRow(LONG_8000 + 1), x -> x.make(2), -4);
        Checks.refused("14 -4 8012 would come, with sums", longRow(LONG_8000), x -> x.make(3), -4);
        Checks.taken("14 by the usual table fewer come", Checks.then(longRow(LONG_8000 + 1), x -> x.entry(0, 0, 4)),
                x -> Math.min(x.make(0), 1), 1);
        Checks.taken("14 what came out can come again", Checks.then(longRow(LONG_8000), x -> { x.make(2); x.swap(); }),
                x -> x.open(), LONG_8000);
    }

    private static void orderOfRefusals() {
        Checks.Steps notGood = x -> x.entry(9, 0, 4);
        Checks.Steps noRun = x -> x.entry(0, 0, 1);
        Checks.refused("14 -3 not GOOD", x -> { Checks.busy(x); x.entry(9, 0, 4); }, x -> x.make(2), -3);
        Checks.taken("14 -2 before -3 not GOOD", notGood, x -> x.make(10), -2);
        Checks.taken("14 -2 before -4", row(6001), x -> x.make(8), -2);
        Checks.taken("14 -3 not GOOD before -4 6001", Checks.then(notGood, row(6001)), x -> x.make(2), -3);
        Checks.taken("14 -4 6001, the table not asked for", Checks.then(notGood, row(6001)), x -> x.make(5), -4);
        Checks.taken("14 not GOOD, not asked for", notGood, x -> x.make(5), 5);
        Checks.Steps zeros = x -> { x.feed(0, 8); x.fill(5992, 1, 0); };
        Checks.taken("14 -3 can't tell 6000", Checks.then(noRun, zeros), x -> x.make(2), -3);
        Checks.taken("14 -4 6001 before -3 can't tell", Checks.then(Checks.then(noRun, zeros), x -> x.feed(1, 1)), x -> x.make(2), -4);
        Checks.Steps longer = Checks.then(longRow(LONG_8000 + 20), x -> x.feed(0, 4));
        Checks.taken("14 -4 8000 and more", longer, x -> x.make(2), -4);
        Checks.taken("14 -3 can't tell before -4 8000", Checks.then(longer, noRun), x -> x.make(2), -3);
    }

    // ---- What is found.

    private static void fourBytes() {
        found("three bytes the same", "abcX", "abcY", "A4");
        found("four bytes the same", "abcdX", "abcdY", "C4@0m0 A1");
        found("three left in the target", "abcdefgh", "xabc", "A4");
        found("four left in the target", "abcdefgh", "xabcd", "A1 C4@0m0");
        found("OLD of three", "abc", "abc", "A3");
        found("OLD of four", "abcd", "abcd", "C4@0m0");
        found("OLD's last four", "xyabcd", "abcd", "C4@2m0");
        found("three of OLD and one of the target", "abc", "dabcd", "A1 C4@0m0");
        found("one of OLD and three of the target", "a", "bcdabcd", "A3 C4@0m0");
        found("no OLD, three back", "", "abcabc", "A6");
        found("no OLD, three back, four bytes", "", "abcabca", "A3 C4@0m0");
        found("reaching what comes", "", "ababab", "A2 C4@0m0");
        found("reaching what comes, three bytes", "", "ababa", "A5");
        found("the place just before", "abcdz", "abcdzzzzzzq", "C5@0m0 R5 A1");
    }

    private static void latestPlaces() {
        for (int others = 14; others <= 17; others++) {
            StringBuilder old = new StringBuilder("abcde");
            for (int k = 0; k < others; k++) {
                old.append("abcd").append((char) ('A' + k));
            }
            String lost = "C4@" + (5 * others) + "m0 A1";
            found("the best with " + others + " later ones", old.toString(), "abcde", others <= 15 ? "C5@0m0" : lost);
            found("the best in the middle, " + others, "abcdZabcdY" + old, "abcde", others <= 15
                    ? "C5@10m0" : "C4@" + (5 * others + 10) + "m" + (5 * others + 10 < 128 ? 0 : 1) + " A1");
            // The places may be in the target as well.
            String told = Checks.found(Checks.texts("", old + "abcde"), 0);
            Checks.due("14 places in the target, " + others, told.substring(told.lastIndexOf('C'), told.lastIndexOf('m')),
                    others <= 15 ? "C5@0" : "C4@" + 5 * others);
        }
        found("the most", "abcde1abcd2", "abcdef", "C5@0m0 A1");
        found("the most, later", "abcd1abcde2", "abcdef", "C5@5m0 A1");
        found("of several the latest", "abcd1abcd2", "abcdef", "C4@5m0 A2");
        found("of three the latest", "abcd1abcd2abcd3", "abcdef", "C4@10m0 A2");
    }

    private static void withinTheTarget() {
        found("no more than the target has", "abcdefgh", "abcd", "C4@0m0");
        found("as many as the target has: the latest", "abcdefXabcdY", "abcd", "C4@7m0");
        found("one more in the target", "abcdefXabcdY", "abcde", "C5@0m0");
        // OLD as the row: the first window ends at 2048.
        // A second window's target begins in SPACE at 2100, OLD's size: 2048 is 52 back.
        Checks.due("14 2048 bytes", Checks.found(copied(2048), 0), "C2048@0m0");
        Checks.due("14 2049 bytes", Checks.found(copied(2049), 0), "C2048@0m0 A1");
        Checks.due("14 2051 bytes", Checks.found(copied(2051), 0), "C2048@0m0 A3");
        Checks.due("14 2052 bytes", Checks.found(copied(2052), 0), "C2048@0m0 C4@2048m1");
        Checks.due("14 2100 bytes", Checks.found(copied(2100), 0), "C2048@0m0 C52@2048m1");
    }

    private static void runs() {
        found("three", "", "zzz", "A3");
        found("four", "", "zzzz", "R4");
        found("three at the end", "", "abzzz", "A5");
        found("four at the end", "", "abzzzz", "A2 R4");
        found("a COPY of as many", "zzzz", "zzzz", "R4");
        found("a COPY of one more", "zzzzy", "zzzzy", "C5@0m0");
        found("a COPY of as many and another byte", "zzzzx", "zzzzy", "R4 A1");
        found("a COPY of fewer", "zzzzy", "zzzzzy", "R5 A1");
        found("all of them", "", "zzzzzzzzzzzzzzzzzzzzzzzz", "R24");
        Checks.due("14 RUN of 2048", Checks.found(zeros(2048), 0), "R2048");
        Checks.due("14 RUN up to the target's end, three more", Checks.found(zeros(2051), 0), "R2048 A3");
        Checks.due("14 RUN up to the target's end, four more", Checks.found(zeros(2052), 0), "R2048 R4");
        Checks.due("14 RUN, with a segment of what came before", Checks.found(zeros(2052), 4), "R2048 R4");
        Checks.due("14 three, with a segment of what came before", Checks.found(zeros(2051), 4), "R2048 A3");
    }

    private static Checks.Steps zeros(int n) {
        return Checks.rowOf(Checks.times(n, 0));
    }

    private static void adds() {
        Object[][] cases = {
            {1, "A1"}, {254, "A254"}, {255, "A255"}, {256, "A255 A1"}, {510, "A255 A255"}, {511, "A255 A255 A1"},
            {2048, "A255 A255 A255 A255 A255 A255 A255 A255 A8"}, {2049, "A255 A255 A255 A255 A255 A255 A255 A255 A8 A1"}};
        for (Object[] one : cases) {
            Checks.due("14 " + one[0] + " bytes to add", Checks.found(row((Integer) one[0]), 0), (String) one[1]);
        }
        found("an ADD behind a COPY is another one", "abcd", "xabcdy", "A1 C4@0m0 A1");
        found("an ADD behind a RUN is another one", "", "xzzzzy", "A1 R4 A1");
    }

    // ---- Addresses.

    /** OLD without repetitions, and a row of pieces of it: places and sizes. */
    private static Checks.Steps ofPieces(int oldSize, int... pieces) {
        int[] old = Checks.filled(oldSize, 3, 0);
        int[][] parts = new int[pieces.length / 2][];
        for (int k = 0; k < parts.length; k++) {
            parts[k] = Arrays.copyOfRange(old, pieces[2 * k], pieces[2 * k] + pieces[2 * k + 1]);
        }
        return x -> {
            x.fill(oldSize, 3, 0);
            x.old();
            x.cut(0);
            Checks.feed(x, Checks.join(parts));
        };
    }

    private static void told(String what, Checks.Steps steps, int marks, String want, int... addresses) {
        Checks.due("14 " + what, Checks.found(steps, marks), want);
        Checks.due("14 " + what + ", the bytes", MadeFile.of(steps, marks).last().addresses, addresses);
    }

    private static void addressLengths() {
        told("MODE 0, the most of one byte", ofPieces(500, 127, 4), 0, "C4@127m0", 127);
        told("MODE 0, the least of two bytes", ofPieces(500, 128, 4), 0, "C4@128m0", 129, 0);
        told("MODE 0 and 1 of one byte", ofPieces(250, 125, 4), 0, "C4@125m0", 125);
        told("MODE 1, the most of one byte", ofPieces(500, 373, 4), 0, "C4@373m1", 127);
        told("MODE 1 of two bytes is no fewer", ofPieces(500, 372, 4), 0, "C4@372m0", 130, 116);
        told("MODE 1, 4 back", ofPieces(500, 496, 4), 0, "C4@496m1", 4);
        told("near, the most of one byte", ofPieces(500, 200, 4, 327, 4), 0, "C4@200m0 C4@327m2", 129, 72, 127);
        told("near of two bytes is no fewer", ofPieces(500, 200, 4, 328, 4), 0, "C4@200m0 C4@328m0", 129, 72, 130, 72);
        told("near is the address", ofPieces(500, 200, 4, 200, 5), 0, "C4@200m0 C5@200m2", 129, 72, 0);
        told("near is one above the address", ofPieces(500, 200, 4, 199, 4), 0, "C4@200m0 C4@199m0", 129, 72, 129, 71);
        told("near is one below the address", ofPieces(500, 200, 4, 201, 4), 0, "C4@200m0 C4@201m2", 129, 72, 1);
        // MODE 1 before near: 500 + 4 - 377 is 127.
        told("MODE 1 before near", ofPieces(500, 300, 4, 377, 4), 0, "C4@300m0 C4@377m1", 130, 44, 127);
        told("near before two bytes of MODE 1", ofPieces(500, 300, 4, 376, 4), 0, "C4@300m0 C4@376m2", 130, 44, 76);
        told("of two of near the least", ofPieces(500, 200, 4, 250, 4, 260, 4), 0,
                "C4@200m0 C4@250m2 C4@260m2", 129, 72, 50, 60);
        told("the second of near alone", ofPieces(500, 200, 4, 130, 4, 195, 4), 0,
                "C4@200m0 C4@130m0 C4@195m3", 129, 72, 129, 2, 65);
    }

    private static void nearRound() {
        // Behind three others near still has it; behind four it has gone round, and same has it.
        told("near, not yet round", ofPieces(500, 300, 4, 140, 4, 10, 4, 20, 4, 300, 6), 0,
                "C4@300m0 C4@140m0 C4@10m0 C4@20m0 C6@300m2", 130, 44, 129, 12, 10, 20, 0);
        told("near has gone round", ofPieces(500, 300, 4, 140, 4, 10, 4, 20, 4, 30, 4, 300, 6), 0,
                "C4@300m0 C4@140m0 C4@10m0 C4@20m0 C4@30m0 C6@300m7", 130, 44, 129, 12, 10, 20, 30, 44);
        // The fifth is at near 0 then.
        told("near 0 is the fifth", ofPieces(1000, 10, 4, 20, 4, 30, 4, 40, 4, 400, 4, 420, 4), 0,
                "C4@10m0 C4@20m0 C4@30m0 C4@40m0 C4@400m0 C4@420m2", 10, 20, 30, 40, 131, 16, 20);
        told("near 3 is the fourth", ofPieces(1000, 10, 4, 20, 4, 30, 4, 400, 4, 420, 4), 0,
                "C4@10m0 C4@20m0 C4@30m0 C4@400m0 C4@420m5", 10, 20, 30, 131, 16, 20);
    }

    private static void otherCaches() {
        Checks.Steps pieces = ofPieces(1000, 300, 4, 140, 4, 300, 6);
        told("N 1: near has but the latest", Checks.then(x -> x.given(1, 6), pieces), 2,
                "C4@300m0 C4@140m0 C6@300m4", 130, 44, 129, 12, 44);
        told("N 1: the latest", Checks.then(x -> x.given(1, 6), ofPieces(1000, 300, 4, 310, 4, 320, 4)), 2,
                "C4@300m0 C4@310m2 C4@320m2", 130, 44, 10, 10);
        told("N 0: MODE 2 is same", Checks.then(x -> x.given(0, 7), ofPieces(1000, 200, 4, 200, 6)), 2,
                "C4@200m0 C6@200m2", 129, 72, 200);
        told("N 0: no near", Checks.then(x -> x.given(0, 7), ofPieces(1000, 200, 4, 201, 4)), 2,
                "C4@200m0 C4@201m0", 129, 72, 129, 73);
        told("S 0: near", Checks.then(x -> x.given(7, 0), pieces), 2,
                "C4@300m0 C4@140m0 C6@300m2", 130, 44, 129, 12, 0);
        int[] behindSix = {300, 4, 140, 4, 10, 4, 20, 4, 30, 4, 40, 4, 50, 4, 300, 6};
        told("S 0: near, not yet round", Checks.then(x -> x.given(7, 0), ofPieces(1000, behindSix)), 2,
                "C4@300m0 C4@140m0 C4@10m0 C4@20m0 C4@30m0 C4@40m0 C4@50m0 C6@300m2",
                130, 44, 129, 12, 10, 20, 30, 40, 50, 0);
        int[] behindSeven = {300, 4, 140, 4, 10, 4, 20, 4, 30, 4, 40, 4, 50, 4, 60, 4, 300, 6};
        told("S 0: no same", Checks.then(x -> x.given(7, 0), ofPieces(1000, behindSeven)), 2,
                "C4@300m0 C4@140m0 C4@10m0 C4@20m0 C4@30m0 C4@40m0 C4@50m0 C4@60m0 C6@300m0",
                130, 44, 129, 12, 10, 20, 30, 40, 50, 60, 130, 44);
    }

    /** N 1, S 1: MODES 0 to 3; what the usual table has by others is by MODE 3. */
    private static void oneAndOne(VcdiffForms x) {
        int[] usual = Checks.usualBytes();
        x.given(1, 1);
        for (int code = 0; code < 256; code++) {
            if (usual[1024 + code] > 3) {
                x.entry(code, 2, 3);
            }
            if (usual[1280 + code] > 3) {
                x.entry(code, 5, 3);
            }
        }
    }

    private static void placesOfSame() {
        told("S 1: 300 is at 44", Checks.then(x -> oneAndOne(x), ofPieces(1000, 300, 4, 140, 4, 300, 6)), 2,
                "C4@300m0 C4@140m0 C6@300m3", 130, 44, 129, 12, 44);
        told("S 1: 556 takes its place", Checks.then(x -> oneAndOne(x), ofPieces(1000, 300, 4, 556, 4, 300, 6)), 2,
                "C4@300m0 C4@556m0 C6@300m0", 130, 44, 132, 44, 130, 44);
        told("S 1: 555 does not", Checks.then(x -> oneAndOne(x), ofPieces(1000, 300, 4, 555, 4, 300, 6)), 2,
                "C4@300m0 C4@555m0 C6@300m3", 130, 44, 132, 43, 44);
        // The last place of same 0 and the first of same 1; the last of all and the first of all.
        int[] lasts = {255, 256, 767, 768};
        int[][] want = {{6, 255}, {7, 0}, {8, 255}, {6, 0}};
        for (int k = 0; k < lasts.length; k++) {
            int mode = want[k][0];
            Checks.Steps steps = ofPieces(1500, lasts[k], 4, 1200, 4, 10, 4, 20, 4, 30, 4, lasts[k], 6);
            Checks.due("14 same of " + lasts[k], Checks.found(steps, 0),
                    "C4@" + lasts[k] + "m0 C4@1200m0 C4@10m0 C4@20m0 C4@30m0 C6@" + lasts[k] + "m" + mode);
            int[] addresses = MadeFile.of(steps, 0).last().addresses;
            Checks.due("14 same of " + lasts[k] + ", its byte", addresses[addresses.length - 1], want[k][1]);
        }
    }

    /** The caches are 0 in each window, and the first of near is next. */
    private static void cachesOfWindows() {
        told("near is 0 in a second window", ofPieces(2600, 300, 2048, 310, 30), 0, "C2048@300m0 C30@310m0", 130, 54);
        told("same is 0 in a second window", ofPieces(2600, 300, 2048, 300, 30), 0, "C2048@300m0 C30@300m0", 130, 44);
        told("near 0 is next in a second window", ofPieces(2600, 300, 2048, 310, 30, 350, 20), 0,
                "C2048@300m0 C30@310m0 C20@350m2", 130, 54, 40);
    }

    // ---- Codes.

    private static void codes(String what, Checks.Steps steps, int marks, int... want) {
        Checks.due("14 " + what, MadeFile.of(steps, marks).last().codes, want);
    }

    private static String first(int n) {
        return "abcdefghijklmnopqrstuvwxyz".substring(0, n);
    }

    private static void pairs() {
        for (int add = 1; add <= 5; add++) {
            for (int size = 4; size <= 7; size++) {
                String row = "12345".substring(0, add) + first(size);
                int pair = 163 + 3 * (add - 1) + size - 4;
                if (add <= 4 && size <= 6) {
                    codes("ADD " + add + " and COPY " + size, Checks.texts(first(size), row), 0, pair);
                } else {
                    codes("ADD " + add + " and COPY " + size, Checks.texts(first(size), row), 0, 1 + add, 16 + size);
                }
            }
        }
        codes("COPY 4 and ADD 1", Checks.texts("abcd", "abcd1"), 0, 247);
        codes("COPY 4 and ADD 2", Checks.texts("abcd", "abcd12"), 0, 20, 3);
        codes("COPY 5 and ADD 1", Checks.texts("abcde", "abcde1"), 0, 21, 2);
        codes("from the first on", Checks.texts("abcd", "1abcd2"), 0, 163, 2);
        codes("from the first on, a COPY", Checks.texts("abcdefgh", "efgh1abcd"), 0, 247, 20);
        codes("a next one of another MODE", Checks.then(x -> x.entry(163, 5, 1), Checks.texts("abcd", "1abcd")), 2, 2, 20);
        codes("SIZE 0 second is no pair", Checks.then(x -> x.entry(163, 4, 0), Checks.texts("abcd", "1abcd")), 2, 2, 20);
        codes("SIZE 0 first is no pair", Checks.then(x -> x.entry(163, 1, 0), Checks.texts("abcd", "1abcd")), 2, 2, 20);
        codes("the least of two pairs", Checks.then(x -> x.entry(164, 4, 4), Checks.texts("abcd", "1abcd")), 2, 163);
        codes("the other one", Checks.then(x -> { x.entry(164, 4, 4); x.entry(163, 4, 9); }, Checks.texts("abcd", "1abcd")), 2, 164);
        // A pair that is a lesser or a greater code than the single one is taken before it.
        codes("a pair at 255", Checks.then(x -> {
            x.entry(163, 4, 9);
            six(x, 255, 1, 1, 0, 3, 4, 0);
        }, Checks.texts("abcd", "1abcd")), 2, 255);
        codes("a pair at 0", Checks.then(x -> six(x, 0, 1, 1, 0, 3, 4, 0), Checks.texts("abcd", "1abcd")), 2, 0);
        // SIZES of 255 can be a code's, of 256 not.
        codes("ADD 255 and RUN 255", Checks.then(x -> six(x, 255, 1, 255, 0, 2, 255, 0), addAndRun(255, 255)), 2, 255);
        codes("ADD 255 and RUN 256", Checks.then(x -> six(x, 255, 1, 255, 0, 2, 255, 0), addAndRun(255, 256)), 2, 1, 129, 127, 0, 130, 0);
        codes("ADD 254 and RUN 255", Checks.then(x -> six(x, 255, 1, 255, 0, 2, 255, 0), addAndRun(254, 255)), 2, 1, 129, 126, 0, 129, 127);
        codes("two ADDS", Checks.then(x -> six(x, 255, 1, 255, 0, 1, 1, 0), row(256)), 2, 255);
        codes("two RUNS", Checks.then(x -> six(x, 255, 2, 4, 0, 2, 5, 0), Checks.texts("", "aaaabbbbb")), 2, 255);
        codes("by same: ADD 1 and COPY 6 by MODE 2", Checks.then(x -> x.given(0, 7), addThenAgain(6)), 2, 21, 189);
        // The last of a window and the first of the next one are no pair.
        Checks.Steps across = x -> {
            x.fill(2500, 2, 0);
            x.old();
            x.cut(2047);
            x.feed(x.out(0), 1);
            x.again(0, 4);
        };
        MadeFile file = MadeFile.of(across, 0);
        Checks.due("14 the first window's codes", file.windows.get(0).codes, Checks.ints(19, 143, 127, 2));
        Checks.due("14 the second window's codes", file.windows.get(1).codes, Checks.ints(20));
    }

    private static void six(VcdiffForms x, int code, int... values) {
        for (int what = 0; what < 6; what++) {
            x.entry(code, what, values[what]);
        }
    }

    private static Checks.Steps addAndRun(int add, int run) {
        return Checks.rowOf(Checks.join(Checks.with(Checks.filled(add, 1, 0), add - 1, 1), Checks.times(run, 0)));
    }

    /** COPY 5 of 200, ADD 1, and a COPY of more from 200 on. */
    private static Checks.Steps addThenAgain(int n) {
        int[] old = Checks.filled(1000, 3, 0);
        return Checks.oldAndRow(old, Checks.join(Arrays.copyOfRange(old, 200, 205), Checks.ints(old[205] ^ 1),
                Arrays.copyOfRange(old, 200, 200 + n)));
    }

    private static void singles() {
        codes("ADD 17", row(17), 0, 18);
        codes("ADD 18", row(18), 0, 1, 18);
        codes("COPY 4", copied(4), 0, 20);
        codes("COPY 18", copied(18), 0, 34);
        codes("COPY 19", copied(19), 0, 19, 19);
        codes("the least of two", Checks.then(x -> x.entry(200, 3, 0), y -> {
            six(y, 200, 1, 3, 0, 0, 0, 0);
            y.fill(3, 1, 0);
        }), 2, 4);
        codes("the other one", y -> {
            six(y, 200, 1, 3, 0, 0, 0, 0);
            y.entry(4, 1, 99);
            y.fill(3, 1, 0);
        }, 2, 200);
        codes("the least with SIZE 0", y -> {
            six(y, 0, 1, 0, 0, 0, 0, 0);
            y.fill(18, 1, 0);
        }, 2, 0, 18);
        codes("SIZE 0 behind the one of this SIZE", y -> {
            six(y, 0, 1, 0, 0, 0, 0, 0);
            y.fill(17, 1, 0);
        }, 2, 18);
        codes("not one with something second", y -> {
            y.entry(2, 1, 99);
            y.fill(1, 1, 0);
        }, 2, 1, 1);
        codes("a SIZE of 255", y -> {
            six(y, 255, 1, 255, 0, 0, 0, 0);
            y.fill(255, 1, 0);
        }, 2, 255);
        codes("a COPY of 255", Checks.then(y -> six(y, 255, 3, 255, 0, 0, 0, 0), copied(255)), 2, 255);
        codes("a COPY of 256", Checks.then(y -> six(y, 255, 3, 255, 0, 0, 0, 0), copied(256)), 2, 19, 130, 0);
        codes("nothing first is not it", Checks.then(y -> {
            six(y, 0, 0, 0, 0, 1, 3, 0);
        }, row(3)), 2, 4);
    }
}
