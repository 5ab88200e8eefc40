import java.util.ArrayList;
import java.util.List;

/** Each promise of the document by hand-made inputs: ordinary ones, its edges, wrong ones. */
public final class PromiseTests {
    private static int wrong = 0;
    private static int checks = 0;

    private static final int[] HEAD = {214, 195, 196, 0, 0};
    /** As HEAD, with a window that adds "abc": its code is byte 15. */
    private static final int[] ABC = {214, 195, 196, 0, 0, 0, 9, 3, 0, 3, 1, 0, 'a', 'b', 'c', 4};
    /** A file that copies 1536 bytes of old: the usual table, told by itself. */
    private static final int[] SAME_TABLE = {
        214, 195, 196, 0, 0, 1, 140, 0, 0, 10, 140, 0, 0, 0, 3, 1, 19, 140, 0, 0};

    public static void main(String[] args) {
        newObject();
        feed();
        fill();
        again();
        size();
        set();
        cut();
        swap();
        differ();
        out();
        old();
        given();
        entry();
        make();
        makeFinds();
        makeAddresses();
        makeCodes();
        makeRefuses();
        open();
        openHeadFaults();
        openTableFaults();
        openWindowFaults();
        openInstructionFaults();
        place();
        told();
        instruction();
        table();
        cache();
        System.out.println(checks + " checks, " + wrong + " wrong");
        if (wrong != 0) {
            System.exit(1);
        }
    }

    private static void due(String what, long got, long want) {
        checks++;
        if (got != want) {
            wrong++;
            System.out.println(what + ": answered " + got + ", due is " + want);
        }
    }

    private static void feedAll(VcdiffForms x, int... bytes) {
        for (int b : bytes) {
            x.feed(b, 1);
        }
    }

    private static void feedText(VcdiffForms x, String text) {
        for (int i = 0; i < text.length(); i++) {
            x.feed(text.charAt(i), 1);
        }
    }

    private static VcdiffForms of(int... bytes) {
        VcdiffForms x = new VcdiffForms();
        feedAll(x, bytes);
        return x;
    }

    private static VcdiffForms ofOld(String old, int... bytes) {
        VcdiffForms x = new VcdiffForms();
        feedText(x, old);
        x.old();
        x.feed(0, 0);
        feedAll(x, bytes);
        return x;
    }

    /** With old, a row of a text, and nothing come out. */
    private static VcdiffForms ofTexts(String old, String row) {
        VcdiffForms x = ofOld(old);
        feedText(x, row);
        return x;
    }

    private static int[] join(int[]... parts) {
        List<Integer> all = new ArrayList<>();
        for (int[] part : parts) {
            for (int b : part) {
                all.add(b);
            }
        }
        return all.stream().mapToInt(b -> b).toArray();
    }

    private static int[] ints(int... bytes) {
        return bytes;
    }

    private static int[] with(int[] bytes, int i, int b) {
        int[] changed = bytes.clone();
        changed[i] = b;
        return changed;
    }

    /** A window without segment and sum; all sizes below 128. */
    private static int[] window(int target, int[] data, int[] codes, int[] addresses) {
        int parts = data.length + codes.length + addresses.length;
        return join(ints(0, 5 + parts, target, 0, data.length, codes.length, addresses.length), data, codes, addresses);
    }

    private static int[] file(int[]... windows) {
        return join(HEAD, join(windows));
    }

    private static void dueOut(String what, VcdiffForms x, int... bytes) {
        for (int i = 0; i < bytes.length; i++) {
            due(what + ", out(" + i + ")", x.out(i), bytes[i]);
        }
        due(what + ", out(" + bytes.length + ")", x.out(bytes.length), -2);
    }

    private static void dueText(String what, VcdiffForms x, String text) {
        dueOut(what, x, text.chars().toArray());
    }

    private static void dueFault(String what, VcdiffForms x, int fault, int place) {
        due(what + ", open()", x.open(), -10 - fault);
        due(what + ", place()", x.place(), place);
    }

    // ---- Promises 1 to 11: the rows.

    private static void newObject() {
        VcdiffForms x = new VcdiffForms();
        due("1 size()", x.size(), 0);
        due("1 out(0)", x.out(0), -2);
        due("1 differ()", x.differ(), -3);
        due("1 place()", x.place(), -1);
        due("1 swap()", x.swap(), 0);
        due("1 the given table's code 255", x.entry(255, 0, 3), 3);
        due("1 the given table's code 255, second", x.entry(255, 3, 1), 1);
        due("1 the given table is good", x.make(2), 5 + 1 + 2 + SAME_TABLE.length);
        dueOut("1 the given table is the usual one", x,
                join(ints(214, 195, 196, 0, 2, 22, 4, 3), SAME_TABLE));
    }

    private static void feed() {
        VcdiffForms x = new VcdiffForms();
        due("2 feed(0x0102030405060708, 8)", x.feed(0x0102030405060708L, 8), 8);
        due("2 feed(0xFFEEDD, 2)", x.feed(0xFFEEDDL, 2), 10);
        due("2 feed(-1, 1)", x.feed(-1L, 1), 11);
        x.swap();
        dueOut("2 the highest first", x, 1, 2, 3, 4, 5, 6, 7, 8, 0xEE, 0xDD, 255);
        x.swap();
        due("2 feed(0, -1)", x.feed(0, -1), -2);
        due("2 feed(0, 9)", x.feed(0, 9), -2);
        due("2 refusals leave it", x.size(), 11);
        due("2 n = 0", x.feed(77, 0), 0);
        due("2 it is empty", x.size(), 0);
        x.fill(7995, 1, 0);
        due("2 feed over 8000", x.feed(1, 6), -4);
        due("2 -2 before -4", x.feed(1, 9), -2);
        due("2 up to 8000", x.feed(1, 5), 8000);
        due("2 one more", x.feed(1, 1), -4);
        due("2 n = 0 of a full row", x.feed(1, 0), 0);
    }

    private static void fill() {
        VcdiffForms x = new VcdiffForms();
        // z: 1013904223 = 0x3C6EF35F, then 0x47502932, 0xD1CCF6E9.
        due("3 fill(3, 0, 0)", x.fill(3, 0, 0), 3);
        due("3 fill(3, 0, 4)", x.fill(3, 0, 4), 6);
        due("3 fill(3, 0, 7)", x.fill(3, 0, 7), 9);
        due("3 fill(0, 5, 0)", x.fill(0, 5, 0), 9);
        x.swap();
        dueOut("3 the bytes", x, 0x3C, 0x47, 0xD1, 3, 4, 0xD, 0, 0, 1);
        x.swap();
        due("3 fill(-1, 0, 0)", x.fill(-1, 0, 0), -2);
        due("3 bits -1", x.fill(1, 0, -1), -2);
        due("3 bits 8", x.fill(1, 0, 8), -2);
        due("3 too many", x.fill(7992, 0, 0), -4);
        due("3 far too many", x.fill(Integer.MAX_VALUE, 0, 0), -4);
        due("3 -2 before -4", x.fill(9000, 0, 8), -2);
        due("3 just enough", x.fill(7991, 0, 0), 8000);
    }

    private static void again() {
        VcdiffForms x = new VcdiffForms();
        due("4 nothing of nothing", x.again(0, 0), 0);
        feedText(x, "abcde");
        due("4 again(1, 3)", x.again(1, 3), 8);
        due("4 again(8, 0)", x.again(8, 0), 8);
        due("4 again(7, 2)", x.again(7, 2), -2);
        due("4 again(-1, 2)", x.again(-1, 2), -2);
        due("4 again(0, -1)", x.again(0, -1), -2);
        due("4 a sum that wraps", x.again(Integer.MAX_VALUE, Integer.MAX_VALUE), -2);
        due("4 refusals leave it", x.size(), 8);
        x.swap();
        dueText("4 the bytes", x, "abcdebcd");
        x.swap();
        x.fill(4000, 1, 0);
        due("4 no room", x.again(0, 4000), -4);
        due("4 up to 8000", x.again(0, 3992), 8000);
        due("4 not there is first", x.again(1, 8000), -2);
    }

    private static void size() {
        VcdiffForms x = new VcdiffForms();
        due("5 empty", x.size(), 0);
        x.feed(0, 8);
        due("5 eight", x.size(), 8);
        x.make(0);
        due("5 make() leaves it", x.size(), 8);
    }

    private static void set() {
        VcdiffForms x = of(10, 20, 30);
        due("6 set(1, 255)", x.set(1, 255), 20);
        due("6 set(1, 0)", x.set(1, 0), 255);
        due("6 set(3, 1)", x.set(3, 1), -2);
        due("6 set(-1, 1)", x.set(-1, 1), -2);
        due("6 set(0, 256)", x.set(0, 256), -2);
        due("6 set(0, -1)", x.set(0, -1), -2);
        due("6 refusals leave it", x.set(0, 9), 10);
        x.swap();
        dueOut("6 the bytes", x, 9, 0, 30);
    }

    private static void cut() {
        VcdiffForms x = of(10, 20, 30);
        due("7 cut(4)", x.cut(4), -2);
        due("7 cut(-1)", x.cut(-1), -2);
        due("7 cut(3)", x.cut(3), 3);
        due("7 cut(1)", x.cut(1), 3);
        due("7 size", x.size(), 1);
        due("7 byte 1 is gone", x.set(1, 0), -2);
        due("7 cut(0)", x.cut(0), 1);
        due("7 cut(0) again", x.cut(0), 0);
    }

    private static void swap() {
        VcdiffForms x = of(10, 20);
        due("8 swap()", x.swap(), 0);
        dueOut("8 what came out", x, 10, 20);
        feedAll(x, 7);
        due("8 back", x.swap(), 2);
        dueOut("8 what came out then", x, 7);
    }

    private static void differ() {
        VcdiffForms x = of(10, 20, 30);
        due("9 against nothing", x.differ(), 0);
        x.swap();
        due("9 nothing against it", x.differ(), 0);
        feedAll(x, 10, 20);
        due("9 the row ends", x.differ(), 2);
        feedAll(x, 30);
        due("9 the same", x.differ(), -3);
        feedAll(x, 255);
        due("9 what came out ends", x.differ(), 3);
        x.set(1, 21);
        due("9 a byte", x.differ(), 1);
    }

    private static void out() {
        VcdiffForms x = of(255, 0);
        x.swap();
        due("10 out(0)", x.out(0), 255);
        due("10 out(1)", x.out(1), 0);
        due("10 out(2)", x.out(2), -2);
        due("10 out(-1)", x.out(-1), -2);
        due("10 out(least)", x.out(Integer.MIN_VALUE), -2);
    }

    private static void old() {
        VcdiffForms x = new VcdiffForms();
        x.fill(4000, 1, 0);
        due("11 4000", x.old(), 4000);
        due("11 the row stays", x.size(), 4000);
        x.feed(0, 1);
        due("11 4001", x.old(), -4);
        x.cut(4000);
        x.make(0);
        x.swap();
        due("11 the refusal left it", x.open(), 4000);
        due("11 as one copy of old", x.told(3), 2);
        x.feed(0, 0);
        due("11 none", x.old(), 0);
    }

    // ---- Promises 12 and 13: the given table.

    private static void given() {
        VcdiffForms x = new VcdiffForms();
        due("12 given(0, 0)", x.given(0, 0), 256);
        due("12 which is not good", x.make(2), -3);
        due("12 given(32, 16)", x.given(32, 16), 256);
        due("12 which is good", x.make(2), 28);
        due("12 N", x.out(6), 32);
        due("12 S", x.out(7), 16);
        due("12 given(33, 0)", x.given(33, 0), -2);
        due("12 given(0, 17)", x.given(0, 17), -2);
        due("12 given(-1, 0)", x.given(-1, 0), -2);
        due("12 given(0, -1)", x.given(0, -1), -2);
        due("12 refusals leave it", x.make(2), 28);
        x.entry(0, 0, 1);
        x.given(4, 3);
        due("12 all entries are the usual ones", x.entry(0, 0, 2), 2);
        due("12 N as usual can't be too few", x.make(2), 28);
        x.given(3, 3);
        due("12 one mode too few", x.make(2), -3);
        x.given(4, 2);
        due("12 one mode too few, S", x.make(2), -3);
    }

    private static void entry() {
        VcdiffForms x = new VcdiffForms();
        // Code 172: ADD 4 and COPY 4 by mode 0; code 246: ADD 4 and COPY 4 by mode 8.
        int[] was = {1, 4, 0, 3, 4, 8};
        for (int what = 0; what < 6; what++) {
            due("13 entry(246, " + what + ", 200)", x.entry(246, what, 200), was[what]);
            due("13 entry(246, " + what + ", 0)", x.entry(246, what, 0), 200);
        }
        due("13 entry(255, 2, 255)", x.entry(255, 2, 255), 8);
        due("13 i -1", x.entry(-1, 0, 0), -2);
        due("13 i 256", x.entry(256, 0, 0), -2);
        due("13 what -1", x.entry(0, -1, 0), -2);
        due("13 what 6", x.entry(0, 6, 0), -2);
        due("13 v -1", x.entry(0, 0, -1), -2);
        due("13 v 256", x.entry(0, 0, 256), -2);
        due("13 refusals leave it", x.entry(0, 0, 2), 2);
        due("13 it is not THE TABLE of open()", x.table(246, 0), 1);
    }

    // ---- Promise 14: make.

    private static void make() {
        VcdiffForms x = new VcdiffForms();
        due("14 a row without bytes", x.make(0), 5);
        dueOut("14 a row without bytes", x, HEAD);
        due("14 with all marks but the table", x.make(5), 5);

        x = ofTexts("", "abc");
        due("14 abc", x.make(0), 16);
        dueOut("14 abc", x, ABC);
        due("14 the row stays", x.size(), 3);
        // a = 1 + 294 = 295, b = 98 + 196 + 295 = 589.
        due("14 abc with a sum", x.make(1), 20);
        dueOut("14 abc with a sum", x, join(HEAD,
                ints(4, 13, 3, 0, 3, 1, 0, 2, 77, 1, 39, 'a', 'b', 'c', 4)));
        due("14 abc by the given table", x.make(2), 39);
        dueOut("14 abc by the given table", x, join(ints(214, 195, 196, 0, 2, 22, 4, 3), SAME_TABLE,
                ints(0, 9, 3, 0, 3, 1, 0, 'a', 'b', 'c', 4)));

        x = ofTexts("xabcd", "abcd");
        due("14 of old", x.make(4), 16);
        dueOut("14 of old", x, join(HEAD, ints(1, 5, 0, 7, 4, 0, 0, 1, 1, 20, 1)));
        windowsOfARow();
    }

    private static void windowsOfARow() {
        VcdiffForms x = new VcdiffForms();
        x.fill(2048, 5, 0);
        x.make(4);
        x.swap();
        due("14 2048 bytes", x.open(), 2048);
        due("14 one window", x.told(0), 1);
        x.swap();
        x.again(0, 1);
        x.make(4);
        x.swap();
        due("14 2049 bytes", x.open(), 2049);
        due("14 two windows", x.told(0), 2);
        x.swap();
        x.again(0, 2047);
        int plain = x.make(0);
        int linked = x.make(4);
        due("14 a second window of its own", plain > 4096 ? 1 : 0, 1);
        x.swap();
        due("14 a second window of what came before", x.open(), 4096);
        int last = x.told(1) + x.told(3) - 1;
        due("14 its last instruction", x.instruction(last, 0), 3);
        due("14 its last instruction's bytes", x.instruction(last, 1), 2047);
        due("14 its last instruction's address", x.instruction(last, 2), 0);
        due("14 is much shorter", linked < 2200 ? 1 : 0, 1);
    }

    private static String opened(VcdiffForms x, int marks) {
        x.make(marks);
        x.swap();
        x.open();
        StringBuilder told = new StringBuilder();
        for (int i = 0; x.instruction(i, 0) >= 0; i++) {
            told.append("?ARC".charAt(x.instruction(i, 0))).append(x.instruction(i, 1));
            if (x.instruction(i, 0) == 3) {
                told.append('@').append(x.instruction(i, 2)).append('m').append(x.instruction(i, 3));
            }
            told.append(' ');
        }
        return told.toString().trim();
    }

    private static void dueFound(String old, String row, String want) {
        String got = opened(ofTexts(old, row), 0);
        checks++;
        if (!got.equals(want)) {
            wrong++;
            System.out.println("14 of '" + old + "' to '" + row + "': found " + got + ", due is " + want);
        }
    }

    private static void makeFinds() {
        dueFound("", "abcdabcd", "A4 C4@0m0");
        dueFound("", "abcabc", "A6");
        dueFound("", "zzz", "A3");
        dueFound("", "zzzz", "R4");
        dueFound("", "azzzzzb", "A1 R5 A1");
        dueFound("zzzz", "zzzz", "R4");
        dueFound("zzzzy", "zzzzy", "C5@0m0");
        dueFound("zzzzzz", "zzzzy", "R4 A1");
        // A copy may reach what it brings itself, and go from the segment on into the target.
        dueFound("", "ababababa", "A2 C7@0m0");
        dueFound("ab", "ababab", "C6@0m0");
        // The longest; of several the latest.
        dueFound("abcde1abcd2", "abcdef", "C5@0m0 A1");
        dueFound("abcd1abcd2", "abcdef", "C4@5m0 A2");
        // Only the 16 latest places count.
        StringBuilder fifteen = new StringBuilder("abcde");
        for (int k = 0; k < 15; k++) {
            fifteen.append("abcd").append((char) ('A' + k));
        }
        dueFound(fifteen.toString(), "abcde", "C5@0m0");
        dueFound(fifteen + "abcdZ", "abcde", "C4@80m0 A1");
        VcdiffForms x = new VcdiffForms();
        x.fill(300, 77, 0);
        checks++;
        String got = opened(x, 0);
        if (!got.equals("A255 A45")) {
            wrong++;
            System.out.println("14 300 bytes to add: found " + got);
        }
    }

    /** Of old bytes that have nothing twice, a row of pieces of them: places and sizes. */
    private static VcdiffForms ofPieces(int oldSize, int... pieces) {
        VcdiffForms x = new VcdiffForms();
        x.fill(oldSize, 3, 0);
        x.old();
        x.swap();
        for (int k = 0; k < pieces.length; k += 2) {
            for (int i = 0; i < pieces[k + 1]; i++) {
                x.feed(x.out(pieces[k] + i), 1);
            }
        }
        return x;
    }

    private static void dueModes(String want, int... pieces) {
        dueModesOf(500, want, pieces);
    }

    private static void dueModesOf(int oldSize, String want, int... pieces) {
        checks++;
        String got = opened(ofPieces(oldSize, pieces), 0);
        if (!got.equals(want)) {
            wrong++;
            System.out.println("14 addresses: " + got + ", due is " + want);
        }
    }

    private static void makeAddresses() {
        dueModes("C4@127m0", 127, 4);
        // 200 takes two bytes by mode 0, by mode 1 (300) and by near (200).
        dueModes("C4@200m0", 200, 4);
        // 500 - 373 = 127 by mode 1.
        dueModes("C4@373m1", 373, 4);
        dueModes("C4@372m0", 372, 4);
        // near 0 is 200 then; 200 + 127 = 327; 180 is below it and not told by it.
        dueModes("C4@200m0 C4@327m2", 200, 4, 327, 4);
        dueModes("C4@200m0 C4@328m0", 200, 4, 328, 4);
        dueModes("C4@200m0 C4@180m0", 200, 4, 180, 4);
        // The same address again (more of it than the target has by then): near before same.
        dueModes("C4@200m0 C6@200m2", 200, 4, 200, 6);
        // As much of it: the latest place is the target's.
        dueModes("C4@200m0 C4@500m1", 200, 4, 200, 4);
        // The least of the modes that take one byte.
        dueModes("C4@200m0 C4@250m2 C4@260m2", 200, 4, 250, 4, 260, 4);
        // Behind four others near has lost it and same has it: 300 is of the second 256 of 768.
        dueModes("C4@300m0 C4@140m0 C4@10m0 C4@20m0 C4@30m0 C6@300m7",
                300, 4, 140, 4, 10, 4, 20, 4, 30, 4, 300, 6);
        dueModes("C4@200m0 C4@340m0 C4@10m0 C4@20m0 C4@30m0 C6@200m6",
                200, 4, 340, 4, 10, 4, 20, 4, 30, 4, 200, 6);
        dueModesOf(1000, "C4@768m0 C4@140m0 C4@10m0 C4@20m0 C4@30m0 C6@768m6",
                768, 4, 140, 4, 10, 4, 20, 4, 30, 4, 768, 6);
    }

    private static void dueCodes(String what, VcdiffForms x, int marks, int... codes) {
        x.make(marks);
        int n = 0;
        while (x.out(n) >= 0) {
            n++;
        }
        // The last window's codes are told behind its data and before its addresses, all known here.
        for (int k = 0; k < codes.length; k++) {
            due(what + ", code " + k, x.out(n - codes.length + k), codes[k]);
        }
    }

    private static void makeCodes() {
        dueCodes("14 ADD 17", ofTexts("", "abcdefghijklmnopq"), 0, 18);
        dueCodes("14 ADD 18", ofTexts("", "abcdefghijklmnopqr"), 0, 1, 18);
        dueCodes("14 RUN", ofTexts("", "zzzzz"), 0, 'z', 0, 5);
        dueCodes("14 ADD 1 and COPY 6", ofTexts("abcdef", "xabcdef"), 0, 1, 'x', 165, 0);
        dueCodes("14 ADD 1 and COPY 7", ofTexts("abcdefg", "xabcdefg"), 0, 2, 1, 'x', 2, 23, 0);
        dueCodes("14 ADD 5 and COPY 4", ofTexts("abcd", "vwxyzabcd"), 0, 'z', 6, 20, 0);
        dueCodes("14 COPY 4 and ADD 1", ofTexts("abcd", "abcdx"), 0, 1, 'x', 247, 0);
        dueCodes("14 COPY 4 and ADD 2", ofTexts("abcd", "abcdxy"), 0, 'y', 20, 3, 0);
        dueCodes("14 COPY 19", ofTexts("abcdefghijklmnopqrs", "abcdefghijklmnopqrs"), 0, 19, 19, 0);

        VcdiffForms x = ofTexts("", "abc");
        x.entry(200, 0, 1);
        x.entry(200, 1, 3);
        x.entry(200, 3, 0);
        x.entry(200, 4, 0);
        x.entry(200, 5, 0);
        dueCodes("14 the least code", x, 2, 'c', 4);
        x.entry(4, 1, 99);
        dueCodes("14 the other one", x, 2, 'c', 200);
        x.entry(200, 1, 98);
        dueCodes("14 with SIZE 0", x, 2, 'c', 1, 3);
        x.entry(1, 1, 97);
        due("14 that can't be told", x.make(2), -3);
        due("14 but by the usual table", x.make(0), 16);
        firstAndLastCode();
        // A code whose first instruction is nothing is never taken.
        x.entry(1, 0, 0);
        x.entry(1, 1, 0);
        x.entry(1, 3, 1);
        x.entry(1, 4, 3);
        due("14 nothing first", x.make(2), -3);
    }

    private static void firstAndLastCode() {
        VcdiffForms x = ofTexts("", "abc");
        x.entry(0, 0, 1);
        x.entry(0, 1, 3);
        dueCodes("14 code 0 for one", x, 2, 'c', 0);
        x = ofTexts("abcd", "xabcd");
        x.entry(0, 0, 1);
        x.entry(0, 1, 1);
        x.entry(0, 3, 3);
        x.entry(0, 4, 4);
        dueCodes("14 code 0 for two", x, 2, 'x', 0, 0);
        x = ofTexts("", "abcdefghijklmnopqrstuvwxyz");
        x.entry(255, 0, 1);
        x.entry(255, 1, 26);
        x.entry(255, 2, 0);
        x.entry(255, 3, 0);
        x.entry(255, 4, 0);
        dueCodes("14 code 255", x, 2, 'z', 255);
    }

    private static void makeRefuses() {
        VcdiffForms x = of(1, 2, 3);
        x.swap();
        due("14 marks -1", x.make(-1), -2);
        due("14 marks 8", x.make(8), -2);
        x.entry(9, 0, 4);
        due("14 a KIND of 4", x.make(2), -3);
        due("14 the same with other marks", x.make(7), -3);
        dueOut("14 refusals leave what came out", x, 1, 2, 3);
        due("14 a table that is not told", x.make(5), 5);
        x.fill(6000, 1, 0);
        due("14 6000", x.make(0) > 6000 ? 1 : 0, 1);
        x.feed(0, 1);
        due("14 6001", x.make(0), -4);
        due("14 marks before that", x.make(9), -2);
        due("14 not good before that", x.make(2), -3);
        notGood();
        tooLong();
    }

    private static void notGood() {
        // what, value and whether the table is good with it, in code 5 (ADD 4) and 25 (COPY 9, mode 0).
        int[][] cases = {
            {5, 2, 1, -3}, {5, 0, 2, 28}, {5, 0, 0, -3}, {5, 3, 1, 28}, {5, 4, 1, -3}, {5, 5, 1, -3},
            {25, 2, 8, 28}, {25, 2, 9, -3}, {25, 1, 255, 28}, {25, 0, 1, 28}, {25, 0, 255, -3}, {25, 3, 4, -3}};
        for (int[] one : cases) {
            VcdiffForms x = new VcdiffForms();
            x.entry(one[0], one[1], one[2]);
            int got = x.make(2);
            due("14 good with " + one[0] + ", " + one[1] + ", " + one[2], got < 0 ? got : 28, one[3]);
        }
    }

    /** Small copies and adds by a table without short codes for them: 7 bytes for 5. */
    private static void tooLong() {
        VcdiffForms x = new VcdiffForms();
        x.fill(4000, 11, 0);
        x.old();
        x.feed(0, 0);
        int[] old = filled(4000, 11);
        int from = 0;
        long v = 0;
        for (int i = 0; i < 2048; i++) {
            if (i % 5 == 0) {
                from = 200 + (from + 777) % 3600;
            }
            v = v << 8 | (i % 5 < 4 ? old[from + i % 5] : old[from + 4] ^ 1);
            if (i % 8 == 7) {
                x.feed(v, 8);
            }
        }
        x.again(0, 2048);
        x.again(0, 1896);
        x.entry(2, 1, 0);
        for (int mode = 0; mode < 9; mode++) {
            x.entry(20 + 16 * mode, 1, 0);
            x.entry(mode < 6 ? 163 + 12 * mode : 235 + 4 * (mode - 6), 4, 99);
            x.entry(247 + mode, 4, 99);
        }
        due("14 by the usual table", x.make(0) > 0 ? 1 : 0, 1);
        int came = x.out(7);
        due("14 more than 8000 bytes", x.make(2), -4);
        due("14 which leaves what came out", x.out(7), came);
        x.feed(0x5A5A5A5AL, 4);
        due("14 with a run", x.make(2), -4);
        x.entry(0, 0, 1);
        due("14 a run that can't be told, at the end, comes before -4", x.make(2), -3);
    }

    private static int[] filled(int n, int seed) {
        int[] bytes = new int[n];
        int z = seed;
        for (int k = 0; k < n; k++) {
            z = z * 1664525 + 1013904223;
            bytes[k] = z >>> 24;
        }
        return bytes;
    }

    // ---- Promise 15: open.

    private static void open() {
        VcdiffForms x = of(HEAD);
        due("15 no windows", x.open(), 0);
        x = of(ABC);
        due("15 abc", x.open(), 3);
        dueText("15 abc", x, "abc");
        due("15 the row stays", x.size(), ABC.length);

        x = of(file(window(7, ints('a', 'z', 'b'), ints(2, 0, 5, 2), ints())));
        due("15 ADD 1, RUN 5, ADD 1", x.open(), 7);
        dueText("15 ADD 1, RUN 5, ADD 1", x, "azzzzzb");
        x = of(file(window(8, ints('a', 'b'), ints(3, 22), ints(0))));
        due("15 a copy that reaches what comes", x.open(), 8);
        dueText("15 a copy that reaches what comes", x, "abababab");
        x = of(file(window(10, ints('a', 'b', 'c', 'd', 'x'), ints(5, 247), ints(128, 1))));
        due("15 a number that leads with 128, wrong size", x.open(), -25);
        x = of(file(window(9, ints('a', 'b', 'c', 'd', 'x'), ints(5, 247), ints(128, 1))));
        due("15 a number that leads with 128", x.open(), 9);
        dueText("15 a number that leads with 128", x, "abcdbcdbx");

        x = ofOld("0123456789", join(HEAD, ints(1, 6, 3, 9, 10, 0, 0, 2, 2, 22, 20, 0, 8)));
        due("15 a segment of old", x.open(), 10);
        dueText("15 a segment of old", x, "3456785678");
        x = ofOld("0123456789", join(ABC, ints(2, 2, 1, 9, 6, 0, 1, 2, 1, 'z', 2, 21, 0)));
        due("15 a segment of what came", x.open(), 9);
        dueText("15 a segment of what came", x, "abczbczbc");
        x = of(join(ABC, ints(0, 5, 0, 0, 0, 0, 0), ints(4, 9, 0, 0, 0, 0, 0, 0, 0, 0, 1)));
        due("15 windows without bytes", x.open(), 3);
        due("15 three of them", x.told(0), 3);
        sizesOfTwo();
        addressesByModes();
    }

    private static void sizesOfTwo() {
        // Code 7 becomes ADD 0 and RUN 0: both sizes told, the first one's first.
        VcdiffForms x = new VcdiffForms();
        x.entry(7, 1, 0);
        x.entry(7, 3, 2);
        x.make(2);
        x.swap();
        feedAll(x, window(5, ints('a', 'b', 'z'), ints(7, 2, 3), ints()));
        due("15 a code of two told sizes", x.open(), 5);
        dueText("15 a code of two told sizes", x, "abzzz");
        // Code 8 becomes nothing, and ADD 2.
        x = new VcdiffForms();
        x.entry(8, 0, 0);
        x.entry(8, 1, 0);
        x.entry(8, 3, 1);
        x.entry(8, 4, 2);
        x.entry(9, 0, 0);
        x.entry(9, 1, 0);
        x.make(2);
        x.swap();
        feedAll(x, window(2, ints('a', 'b'), ints(9, 8, 9), ints()));
        due("15 nothing is passed over", x.open(), 2);
        due("15 nothing is not counted", x.told(1), 1);
        due("15 that is not a code of two", x.told(4), 0);
        due("15 nothing is not noted", x.instruction(1, 0), -2);
    }

    private static void addressesByModes() {
        // COPY of 4 by mode m is code 20 + 16 m.
        int[] data = {'a', 'b', 'c', 'd', 'e', 'f', 'g', 'h'};
        int[] codes = {9, 20, 36, 52, 84, 116, 132};
        // 0: 2. 1: here 12 - 9 = 3. near 0 (2) + 4 = 6. near 2 (6) + 1 = 7. same 3: 3. same 256 + 0: 0.
        int[] addresses = {2, 9, 4, 1, 3, 0};
        VcdiffForms x = of(file(window(32, data, codes, addresses)));
        due("15 by all modes", x.open(), 32);
        int[] want = {2, 3, 6, 7, 3, 0};
        for (int k = 0; k < want.length; k++) {
            due("15 address of copy " + k, x.instruction(k + 1, 2), want[k]);
        }
        dueText("15 by all modes", x, "abcdefgh" + "cdef" + "defg" + "ghcd" + "hcde" + "defg" + "abcd");
        // Six of them, and near has gone round: 3 and 0 are at near 0 and 1.
        due("15 near 0", x.cache(0, 0), 3);
        due("15 near 1", x.cache(0, 1), 0);
        due("15 near 2", x.cache(0, 2), 6);
    }

    private static void openHeadFaults() {
        for (int n = 0; n < ABC.length; n++) {
            VcdiffForms x = of(ABC);
            x.cut(n);
            if (n == 5) {
                due("15 the head alone", x.open(), 0);
            } else {
                dueFault("15 fault 1, " + n + " bytes", x, 1, n);
            }
        }
        for (int i = 0; i < 4; i++) {
            dueFault("15 fault 2, byte " + i, of(with(ABC, i, 1)), 2, 0);
        }
        dueFault("15 fault 2 of four bytes", of(214, 195, 196, 1), 2, 0);
        dueFault("15 three wrong bytes", of(1, 1, 1), 1, 3);
        int[] wrongHeads = {1, 3, 5, 7, 8, 12, 128, 255};
        for (int b : wrongHeads) {
            dueFault("15 fault 4, " + b, of(with(ABC, 4, b)), 4, 4);
        }
        int[] appendix = {214, 195, 196, 0, 4};
        dueFault("15 fault 3, more", of(join(appendix, ints(144, 128, 128, 128, 0))), 3, 5);
        dueFault("15 fault 3, five bytes with 128", of(join(appendix, ints(128, 128, 128, 128, 128))), 3, 5);
        dueFault("15 the most is not wrong", of(join(appendix, ints(143, 255, 255, 255, 127))), 1, 10);
        dueFault("15 four bytes with 128", of(join(appendix, ints(128, 128, 128, 128))), 1, 9);
        due("15 leading with 128", of(join(appendix, ints(128, 128, 128, 128, 1, 99))).open(), 0);
        due("15 an appendix of none", of(join(appendix, ints(0))).open(), 0);
        dueFault("15 an appendix that is not there in full", of(join(appendix, ints(3, 1, 2))), 1, 8);
        VcdiffForms x = of(join(appendix, ints(3, 9, 8, 7), ints(0, 9, 3, 0, 3, 1, 0, 'a', 'b', 'c', 4)));
        due("15 a window behind an appendix", x.open(), 3);
    }

    private static VcdiffForms ofTable(int near, int same, int... tableFile) {
        return of(join(ints(214, 195, 196, 0, 2, tableFile.length + 2, near, same), tableFile));
    }

    private static void openTableFaults() {
        due("15 a table", ofTable(4, 3, SAME_TABLE).open(), 0);
        due("15 N 32, S 16", ofTable(32, 16, SAME_TABLE).open(), 0);
        dueFault("15 fault 5, N 33", ofTable(33, 3, SAME_TABLE), 5, 6);
        dueFault("15 fault 5, S 17", ofTable(4, 17, SAME_TABLE), 5, 6);
        dueFault("15 fault 5, not good", ofTable(3, 3, SAME_TABLE), 5, 6);
        dueFault("15 fault 5, no bytes", of(214, 195, 196, 0, 2, 0), 5, 6);
        dueFault("15 fault 5, one byte", of(214, 195, 196, 0, 2, 1, 4), 5, 6);
        dueFault("15 fault 5, two bytes", of(214, 195, 196, 0, 2, 2, 4, 3), 5, 6);
        dueFault("15 fault 5, no windows", ofTable(4, 3, HEAD), 5, 6);
        dueFault("15 fault 5, another size", ofTable(4, 3, ABC), 5, 6);
        dueFault("15 fault 5, a table in it", ofTable(4, 3, with(SAME_TABLE, 4, 2)), 5, 6);
        dueFault("15 fault 5, a fault in it", ofTable(4, 3, with(SAME_TABLE, 0, 1)), 5, 6);
        dueFault("15 fault 5, a fault of a window in it", ofTable(4, 3, with(SAME_TABLE, 5, 8)), 5, 6);
        dueFault("15 fault 5, a later place", of(join(ints(214, 195, 196, 0, 2, 128, 22, 40, 3), SAME_TABLE)), 5, 7);
        int[] whole = join(ints(214, 195, 196, 0, 2, 22, 4, 3), SAME_TABLE);
        for (int n = 5; n < whole.length; n++) {
            VcdiffForms x = of(whole);
            x.cut(n);
            dueFault("15 fault 1 in a table, " + n, x, 1, n);
        }
        dueFault("15 fault 3 of a table's size", of(214, 195, 196, 0, 2, 255, 255, 255, 255, 255), 3, 5);
        int[] appended = join(ints(214, 195, 196, 0, 4, 1, 77), ints(1, 140, 0, 0, 10, 140, 0, 0, 0, 3, 1, 19, 140, 0, 0));
        VcdiffForms x = ofTable(4, 3, appended);
        due("15 an appendix in a table's file", x.open(), 0);
        due("15 which is not this one's", x.told(6), 0);
        due("15 nor are its windows", x.told(0), 0);
        due("15 nor its copies", x.told(3), 0);
        due("15 nor its instructions", x.instruction(0, 0), -2);
        x = of(join(ints(214, 195, 196, 0, 6, 22, 5, 3), SAME_TABLE, ints(2, 7, 7)));
        due("15 a table and an appendix", x.open(), 0);
        due("15 the appendix", x.told(6), 2);
        due("15 the table", x.told(7), 1);
    }

    private static void openWindowFaults() {
        for (int b : ints(3, 7, 8, 16, 131, 255)) {
            dueFault("15 fault 6, " + b, of(with(ABC, 5, b)), 6, 5);
        }
        int[] ofOld = join(HEAD, ints(1, 6, 3, 7, 6, 0, 0, 1, 1, 22, 0));
        due("15 a segment", ofOld("012345678", ofOld).open(), 6);
        dueFault("15 fault 7, old", ofOld("01234567", ofOld), 7, 6);
        dueFault("15 fault 7, what came", ofOld("012345678", with(ofOld, 5, 2)), 7, 6);
        dueFault("15 fault 7, large", ofOld("01", join(HEAD, ints(1, 143, 255, 255, 255, 127, 143, 255, 255, 255, 127))), 7, 6);
        dueFault("15 fault 3, a segment's place", ofOld("01", join(HEAD, ints(1, 1, 255, 255, 255, 255, 255))), 3, 7);
        due("15 a segment of none at the end", ofOld("01", join(HEAD, ints(1, 0, 2, 5, 0, 0, 0, 0, 0))).open(), 0);

        dueFault("15 fault 8, less", of(with(ABC, 6, 8)), 8, 6);
        dueFault("15 fault 8, more", of(with(ABC, 6, 10)), 8, 6);
        dueFault("15 fault 8, before the parts are looked for", of(with(ABC, 9, 100)), 8, 6);
        dueFault("15 fault 8, a sum that was not counted", of(with(ABC, 5, 4)), 8, 6);
        dueFault("15 fault 1, sum bytes", of(join(HEAD, ints(4, 77, 0, 0, 0, 0, 0, 1, 1, 1))), 1, 15);
        dueFault("15 fault 8 behind the sum", of(join(HEAD, ints(4, 77, 0, 0, 0, 0, 0, 1, 1, 1, 1))), 8, 6);
        dueFault("15 fault 9", of(with(ABC, 8, 1)), 9, 8);
        dueFault("15 fault 9 of the last byte", of(join(HEAD, ints(0, 9, 3, 1))), 9, 8);
        dueFault("15 fault 3, the target's size", of(join(HEAD, ints(0, 9, 255, 255, 255, 255, 255))), 3, 7);
        dueFault("15 fault 3, how many follow", of(join(HEAD, ints(0, 255, 255, 255, 255, 255))), 3, 6);
        dueFault("15 fault 3, addresses", of(join(HEAD, ints(0, 9, 1, 0, 1, 1, 255, 255, 255, 255, 255))), 3, 11);
        int[] full = join(HEAD, ints(0, 10, 190, 64, 0, 1, 3, 0, 'z', 0, 190, 64));
        due("15 8000 bytes", of(full).open(), 8000);
        dueFault("15 fault 10", of(with(with(full, 8, 65), 16, 65)), 10, 7);
        dueFault("15 fault 10 before fault 9", of(join(HEAD, ints(0, 9, 190, 65, 1))), 10, 7);
        dueFault("15 fault 10 of two windows", of(join(full, ints(0, 9, 1, 0, 1, 1, 0))), 10, 19);
        int[] summed = join(HEAD, ints(4, 13, 3, 0, 3, 1, 0, 2, 77, 1, 39, 'a', 'b', 'c', 4));
        due("15 a sum", of(summed).open(), 3);
        for (int i = 12; i < 16; i++) {
            dueFault("15 fault 16, byte " + i, of(with(summed, i, 3)), 16, 12);
        }
        dueFault("15 fault 15 before fault 16", of(with(summed, 7, 4)), 15, 20);
    }

    private static void openInstructionFaults() {
        int[] none = {};
        // Behind 5 bytes of head and 7 of a window DATA begin at 12.
        dueFault("15 fault 11, not there", of(file(window(1, ints('a'), ints(1), none))), 11, 13);
        dueFault("15 fault 11, not in full", of(file(window(1, ints('a'), ints(1, 128), none))), 11, 13);
        dueFault("15 fault 11, wrong", of(file(window(1, ints('a'), ints(1, 128, 128, 128, 128, 128, 0), none))), 11, 13);
        dueFault("15 fault 11 does not look into addresses", of(file(window(1, ints('a'), ints(1), ints(1)))), 11, 13);
        dueFault("15 fault 13, ADD", of(file(window(1, ints('a'), ints(3), none))), 13, 13);
        dueFault("15 fault 13, a large size", of(file(window(1, ints('a'), ints(1, 143, 255, 255, 255, 127), none))), 13, 13);
        dueFault("15 fault 13, COPY", of(file(window(4, ints('a'), ints(2, 20), ints(0)))), 13, 14);
        dueFault("15 fault 12, ADD", of(file(window(3, ints('a'), ints(3), none))), 12, 13);
        dueFault("15 fault 12, RUN", of(file(window(3, none, ints(0, 3), none))), 12, 12);
        dueFault("15 fault 12, RUN of none", of(file(window(0, none, ints(0, 0), none))), 12, 12);
        due("15 RUN of none takes its byte", of(file(window(0, ints('a'), ints(0, 0), none))).open(), 0);
        dueFault("15 fault 14, not there", of(file(window(5, ints('a'), ints(2, 20), none))), 14, 14);
        dueFault("15 fault 14, not in full", of(file(window(5, ints('a'), ints(2, 20), ints(128)))), 14, 14);
        dueFault("15 fault 14, wrong", of(file(window(5, ints('a'), ints(2, 20), ints(255, 255, 255, 255, 127)))), 14, 14);
        dueFault("15 fault 14, here", of(file(window(5, ints('a'), ints(2, 20), ints(1)))), 14, 14);
        dueFault("15 fault 14, here by mode 1", of(file(window(5, ints('a'), ints(2, 36), ints(0)))), 14, 14);
        due("15 mode 1", of(file(window(5, ints('a'), ints(2, 36), ints(1)))).open(), 5);
        dueFault("15 fault 14, below 0", of(file(window(5, ints('a'), ints(2, 36), ints(2)))), 14, 14);
        dueFault("15 fault 14, far below 0", of(file(window(5, ints('a'), ints(2, 36), ints(143, 255, 255, 255, 127)))), 14, 14);
        dueFault("15 fault 14, far above", of(file(window(5, ints('a'), ints(2, 52), ints(143, 255, 255, 255, 127)))), 14, 14);
        dueFault("15 fault 14, same", of(file(window(4, none, ints(116), ints(0)))), 14, 12);
        dueFault("15 fault 14, same, not there", of(file(window(5, ints('a'), ints(2, 116), none))), 14, 14);
        dueFault("15 fault 14, a COPY of none", of(file(window(0, none, ints(19, 0), ints(0)))), 14, 12);
        due("15 a COPY of none", of(file(window(1, ints('a'), ints(2, 19, 0), ints(0)))).open(), 1);
        dueFault("15 fault 14 of a code's second one", of(file(window(5, ints('a'), ints(163), ints(1)))), 14, 13);
        dueFault("15 fault 15, not full", of(file(window(4, ints('a'), ints(2), none))), 15, 14);
        dueFault("15 fault 15, data", of(file(window(1, ints('a', 'b'), ints(2), none))), 15, 15);
        dueFault("15 fault 15, addresses", of(file(window(1, ints('a'), ints(2), ints(0)))), 15, 14);
        dueFault("15 fault 15, no instructions", of(file(window(1, none, none, none))), 15, 12);
        VcdiffForms x = of(ABC);
        x.open();
        x.set(15, 5);
        dueFault("15 behind a good one", x, 13, 15);
        dueText("15 what came out before stays", x, "abc");
    }

    // ---- Promises 16 to 20: what is told of the latest open().

    private static void place() {
        VcdiffForms x = new VcdiffForms();
        due("16 before any", x.place(), -1);
        x.open();
        due("16 of no bytes", x.place(), 0);
        feedAll(x, ABC);
        due("16 of the latest open() still", x.place(), 0);
        x.open();
        due("16 without a fault", x.place(), -1);
    }

    private static void dueTold(String what, VcdiffForms x, int... want) {
        for (int k = 0; k < want.length; k++) {
            due(what + ", told(" + k + ")", x.told(k), want[k]);
        }
    }

    private static void told() {
        VcdiffForms x = new VcdiffForms();
        dueTold("17 before any", x, 0, 0, 0, 0, 0, 0, 0, 0, 4, 3);
        due("17 told(-1)", x.told(-1), -2);
        due("17 told(10)", x.told(10), -2);
        int[] good = window(14, ints('a', 'b', 'c', 'd', 'x', 'z'), ints(5, 247, 0, 5), ints(1));
        int[] bad = window(9, ints('a', 'b', 'c', 'd'), ints(172, 172), ints(0));
        x = of(join(ints(214, 195, 196, 0, 4, 2, 7, 7), good, bad, good));
        // The second window's first code takes 4 + 4 of 9, the second one's ADD 4 is too much.
        dueFault("17 as far as it came", x, 13, 8 + good.length + 7 + 4 + 1);
        dueTold("17 as far as it came", x, 2, 3, 1, 2, 3, 22, 2, 0, 4, 3);
        x = of(join(HEAD, good, ints(9)));
        x.open();
        dueTold("17 a wrong first byte", x, 1, 2, 1, 1, 1, 14, 0, 0, 4, 3);
        x = of(join(HEAD, good, ints(1)));
        x.open();
        dueTold("17 a good first byte", x, 2, 2, 1, 1, 1, 14, 0, 0, 4, 3);
        x = of(join(ints(214, 195, 196, 0, 6, 22, 9, 16), SAME_TABLE, ints(3, 1, 1)));
        dueFault("17 an appendix without its bytes", x, 1, 31);
        dueTold("17 an appendix without its bytes", x, 0, 0, 0, 0, 0, 0, 0, 1, 9, 16);
        x = ofTable(9, 17, SAME_TABLE);
        x.open();
        dueTold("17 a table that is not taken", x, 0, 0, 0, 0, 0, 0, 0, 0, 4, 3);
        x = of(file(window(4, ints('a', 'b'), ints(163), ints(0))));
        dueFault("17 a code of two whose second one is too much", x, 13, 14);
        dueTold("17 its first one was through", x, 1, 1, 0, 0, 1, 1, 0, 0, 4, 3);
        x = of(file(window(0, ints('a'), ints(163), ints(0))));
        dueFault("17 a code of two whose first one is too much", x, 13, 13);
        dueTold("17 it was begun", x, 1, 0, 0, 0, 1, 0, 0, 0, 4, 3);
        x.feed(0, 0);
        x.open();
        dueTold("17 of the latest alone", x, 0, 0, 0, 0, 0, 0, 0, 0, 4, 3);
    }

    private static void instruction() {
        VcdiffForms x = new VcdiffForms();
        due("18 before any", x.instruction(0, 0), -2);
        x = ofOld("01234567", join(HEAD, ints(1, 4, 2, 13, 12, 0, 2, 4, 2, 'x', 'y', 163, 0, 3, 36, 4, 8)));
        due("18 open()", x.open(), 12);
        int[][] want = {{1, 1, -1, 0}, {3, 4, 4, 0}, {2, 3, -1, 0}, {3, 4, 4, 1}};
        for (int i = 0; i < want.length; i++) {
            for (int what = 0; what < 4; what++) {
                due("18 instruction(" + i + ", " + what + ")", x.instruction(i, what), want[i][what]);
            }
        }
        due("18 no fifth", x.instruction(4, 0), -2);
        due("18 i -1", x.instruction(-1, 0), -2);
        due("18 what -1", x.instruction(0, -1), -2);
        due("18 what 4", x.instruction(0, 4), -2);
        due("18 large numbers", x.instruction(Integer.MAX_VALUE, Integer.MAX_VALUE), -2);
        noted();
    }

    /** 2500 times ADD of no bytes by code 1 and its number, and one ADD 1. */
    private static void noted() {
        VcdiffForms x = new VcdiffForms();
        feedAll(x, join(HEAD, ints(0, 167, 16, 1, 0, 1, 167, 9, 0, 'a')));
        // 5001 bytes of codes: 2, and 2500 times 1, 0.
        x.feed(2, 1);
        x.feed(0x0100010001000100L, 8);
        x.again(16, 8);
        for (int n = 16; n < 4096; n *= 2) {
            x.again(16, n);
        }
        x.again(16, 5000 - 4096);
        due("18 how many bytes", x.size(), 16 + 5000);
        due("18 2501 instructions", x.open(), 1);
        due("18 all are counted", x.told(1), 2501);
        due("18 the first", x.instruction(0, 1), 1);
        due("18 the last that is noted", x.instruction(1999, 1), 0);
        due("18 no more are noted", x.instruction(2000, 1), -2);
    }

    private static void table() {
        VcdiffForms x = new VcdiffForms();
        int[][] usual = {
            {0, 2, 0, 0, 0, 0, 0}, {1, 1, 0, 0, 0, 0, 0}, {18, 1, 17, 0, 0, 0, 0}, {19, 3, 0, 0, 0, 0, 0},
            {20, 3, 4, 0, 0, 0, 0}, {34, 3, 18, 0, 0, 0, 0}, {35, 3, 0, 1, 0, 0, 0}, {162, 3, 18, 8, 0, 0, 0},
            {163, 1, 1, 0, 3, 4, 0}, {165, 1, 1, 0, 3, 6, 0}, {166, 1, 2, 0, 3, 4, 0}, {175, 1, 1, 0, 3, 4, 1},
            {234, 1, 4, 0, 3, 6, 5}, {235, 1, 1, 0, 3, 4, 6}, {238, 1, 4, 0, 3, 4, 6}, {239, 1, 1, 0, 3, 4, 7},
            {246, 1, 4, 0, 3, 4, 8}, {247, 3, 4, 0, 1, 1, 0}, {255, 3, 4, 8, 1, 1, 0}};
        for (int[] one : usual) {
            for (int what = 0; what < 6; what++) {
                due("19 table(" + one[0] + ", " + what + ")", x.table(one[0], what), one[what + 1]);
            }
        }
        due("19 i -1", x.table(-1, 0), -2);
        due("19 i 256", x.table(256, 0), -2);
        due("19 what -1", x.table(0, -1), -2);
        due("19 what 6", x.table(0, 6), -2);
        x.entry(17, 1, 200);
        x.entry(17, 3, 3);
        x.entry(17, 4, 9);
        x.entry(17, 5, 7);
        x.make(2);
        due("19 make() leaves it", x.table(17, 1), 16);
        x.swap();
        due("19 open()", x.open(), 0);
        due("19 SIZE", x.table(17, 1), 200);
        due("19 second KIND", x.table(17, 3), 3);
        due("19 second SIZE", x.table(17, 4), 9);
        due("19 second MODE", x.table(17, 5), 7);
        x.set(4, 1);
        x.open();
        due("19 the usual one in the next open()", x.table(17, 1), 16);
    }

    private static void cache() {
        VcdiffForms x = new VcdiffForms();
        due("20 near before any", x.cache(0, 3), 0);
        due("20 no near 4", x.cache(0, 4), -2);
        due("20 same before any", x.cache(1, 767), 0);
        due("20 no same 768", x.cache(1, 768), -2);
        due("20 near -1", x.cache(0, -1), -2);
        due("20 same -1", x.cache(1, -1), -2);
        due("20 which 2", x.cache(2, 0), -2);
        due("20 which -1", x.cache(-1, 0), -2);

        int[] copies = window(13, ints('a', 'b', 'c', 'd', 'e'), ints(6, 20, 20), ints(3, 4));
        x = of(join(HEAD, copies));
        due("20 open()", x.open(), 13);
        due("20 near 0", x.cache(0, 0), 3);
        due("20 near 1", x.cache(0, 1), 4);
        due("20 near 2", x.cache(0, 2), 0);
        due("20 same 3", x.cache(1, 3), 3);
        due("20 same 4", x.cache(1, 4), 4);
        due("20 same 5", x.cache(1, 5), 0);

        x = of(join(HEAD, copies, window(1, ints('a'), ints(2), ints())));
        due("20 an ADD in a second window", x.open(), 14);
        due("20 they are 0 in each window", x.cache(0, 0), 0);
        due("20 same as well", x.cache(1, 3), 0);
        x = of(join(HEAD, copies, window(5, ints('z'), ints(0, 5), ints())));
        due("20 a RUN in a second window", x.open(), 18);
        due("20 they are 0 behind it", x.cache(0, 0), 0);
        // From where a window's instructions begin its own caches are told.
        x = of(join(HEAD, copies, window(5, ints('a'), ints(36), ints(1))));
        dueFault("20 a second window without an instruction that is through", x, 14, 5 + copies.length + 7 + 1);
        due("20 its own near", x.cache(0, 1), 0);
        due("20 its own same", x.cache(1, 4), 0);
        x = of(join(HEAD, copies, window(4, ints('a'), ints(52), ints(3))));
        due("20 but that window's own are 0", x.open(), -24);
        x = of(join(HEAD, copies, window(9, ints('a', 'b', 'c', 'd', 'e'), ints(6, 52), ints(4))));
        due("20 near 0 is 0 in a second window", x.open(), 22);
        due("20 its copy's address", x.instruction(4, 2), 4);
        x.set(0, 0);
        x.open();
        due("20 0 before any window's", x.cache(0, 0), 0);
        ofOtherSizes();
        ofOneSlot();
    }

    private static void ofOneSlot() {
        // RUN of 800, COPY 4 of 768 (134, 0 as BIG number), COPY 4 of 0: both are told by same 0.
        int[] run = {0, 134, 32};
        VcdiffForms x = of(join(HEAD, ints(0, 13, 134, 36, 0, 1, 4, 2, 'z'), run, ints(20, 134, 0)));
        due("20 COPY of 768", x.open(), 804);
        due("20 same 0 is 768", x.cache(1, 0), 768);
        x = of(join(HEAD, ints(0, 15, 134, 40, 0, 1, 5, 3, 'z'), run, ints(20, 20, 134, 0, 0)));
        due("20 COPY of 768 and of 0", x.open(), 808);
        due("20 same 0 is 0 again", x.cache(1, 0), 0);
        due("20 near 0", x.cache(0, 0), 768);
    }

    private static void ofOtherSizes() {
        VcdiffForms x = ofTable(10, 4, SAME_TABLE);
        feedAll(x, window(9, ints('a', 'b', 'c', 'd', 'e'), ints(6, 20), ints(4)));
        due("20 N 10, S 4", x.open(), 9);
        due("20 near 0 of 10", x.cache(0, 0), 4);
        due("20 near 9", x.cache(0, 9), 0);
        due("20 no near 10", x.cache(0, 10), -2);
        due("20 same 4 of 1024", x.cache(1, 4), 4);
        due("20 same 1023", x.cache(1, 1023), 0);
        due("20 no same 1024", x.cache(1, 1024), -2);
        x = ofTable(0, 16, SAME_TABLE);
        due("20 N 0", x.open(), 0);
        due("20 no near at all", x.cache(0, 0), -2);
        due("20 same 4095", x.cache(1, 4095), 0);
        x = ofTable(7, 0, SAME_TABLE);
        due("20 S 0", x.open(), 0);
        due("20 no same at all", x.cache(1, 0), -2);
        due("20 near 6", x.cache(0, 6), 0);
    }
}
