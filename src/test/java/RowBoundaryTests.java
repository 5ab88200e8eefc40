/** Promises 1 to 11: each boundary that the document names, on both sides. */
public final class RowBoundaryTests {
    private static final int LEAST = Integer.MIN_VALUE;
    private static final int MOST = Integer.MAX_VALUE;

    public static void main(String[] args) {
        newObject();
        feed();
        fill();
        fillWraps();
        again();
        size();
        set();
        cut();
        swap();
        differ();
        out();
        old();
        Checks.finish();
    }

    private static Checks.Steps row(int n) {
        return x -> x.fill(n, 1, 0);
    }

    /** Something everywhere, and so many bytes in the row. */
    private static Checks.Steps busy(int n) {
        return x -> Checks.busyWithRow(x, n);
    }

    private static void newObject() {
        Checks.due("1 empty: the row", Checks.rowBytes(Checks.NEW), Checks.NONE);
        Checks.due("1 empty: what came out", Checks.outBytes(Checks.NEW), Checks.NONE);
        Checks.due("1 empty: OLD", Checks.oldBytes(Checks.NEW), Checks.NONE);
        Checks.due("1 the GIVEN table is the USUAL one", Checks.tableBytes(Checks.NEW, true), Checks.usualBytes());
        Checks.due("1 also its N and S", Checks.givenNumbers(Checks.NEW), Checks.ints(4, 3));
    }

    private static void feed() {
        Checks.taken("2 n = 0, of an empty row", Checks.NEW, x -> x.feed(5, 0), 0);
        Checks.taken("2 n = 0, of one byte", row(1), x -> x.feed(5, 0), 0);
        Checks.taken("2 n = 0, of a full row", row(8000), x -> x.feed(5, 0), 0);
        Checks.due("2 n = 0: it is empty", Checks.rowBytes(Checks.then(row(8000), x -> x.feed(-1, 0))), Checks.NONE);
        Checks.due("2 n = 0: what comes then is first",
                Checks.rowBytes(Checks.then(row(8000), x -> { x.feed(-1, 0); x.feed(7, 1); })), Checks.ints(7));
        for (int n = 1; n <= 8; n++) {
            int k = n;
            int[] lowest = new int[n];
            for (int i = 0; i < n; i++) {
                lowest[i] = 0xF8 + 8 - n + i;
            }
            Checks.taken("2 n = " + n, Checks.NEW, x -> x.feed(0xF8F9FAFBFCFDFEFFL, k), n);
            Checks.due("2 the n lowest bytes, n = " + n,
                    Checks.rowBytes(x -> x.feed(0xF8F9FAFBFCFDFEFFL, k)), lowest);
            Checks.taken("2 up to 8000, n = " + n, row(8000 - n), x -> x.feed(1, k), 8000);
            Checks.refused("2 -4 there would be 8001, n = " + n, busy(8001 - n), x -> x.feed(1, k), -4);
            Checks.refused("2 -4 of a full row, n = " + n, row(8000), x -> x.feed(1, k), -4);
        }
        for (int n : new int[] {-1, 9, LEAST, MOST, 256, -8}) {
            Checks.refused("2 -2 n = " + n, x -> Checks.busy(x), x -> x.feed(1, n), -2);
            Checks.taken("2 -2 before -4, n = " + n, row(8000), x -> x.feed(1, n), -2);
        }
        Checks.due("2 v below 0", Checks.rowBytes(x -> x.feed(Long.MIN_VALUE, 8)), Checks.ints(128, 0, 0, 0, 0, 0, 0, 0));
        Checks.due("2 v = -1", Checks.rowBytes(x -> x.feed(-1, 8)), Checks.times(8, 255));
        Checks.due("2 v = -1, one byte", Checks.rowBytes(x -> x.feed(-1, 1)), Checks.ints(255));
        Checks.due("2 the most", Checks.rowBytes(x -> x.feed(Long.MAX_VALUE, 8)), Checks.with(Checks.times(8, 255), 0, 127));
    }

    private static void fill() {
        Checks.taken("3 n = 0, of an empty row", Checks.NEW, x -> x.fill(0, 1, 0), 0);
        Checks.taken("3 n = 0, of a full row", row(8000), x -> x.fill(0, 1, 7), 8000);
        Checks.refused("3 n = 0 brings nothing", busy(20), x -> x.fill(0, 1, 0), 20);
        Checks.taken("3 n = 1", Checks.NEW, x -> x.fill(1, 1, 0), 1);
        for (int n : new int[] {-1, LEAST}) {
            Checks.refused("3 -2 n = " + n, x -> Checks.busy(x), x -> x.fill(n, 1, 0), -2);
            Checks.taken("3 -2 before -4, n = " + n, row(8000), x -> x.fill(n, 1, 0), -2);
        }
        for (int bits = 0; bits <= 7; bits++) {
            int k = bits;
            Checks.taken("3 bits " + bits, row(3), x -> x.fill(2, 1, k), 5);
            Checks.due("3 the bytes, bits " + bits, Checks.rowBytes(x -> x.fill(300, 99, k)), Checks.filled(300, 99, bits));
        }
        for (int bits : new int[] {-1, 8, LEAST, MOST, 32}) {
            Checks.refused("3 -2 bits " + bits, x -> Checks.busy(x), x -> x.fill(1, 1, bits), -2);
            Checks.taken("3 -2 of no bytes, bits " + bits, Checks.NEW, x -> x.fill(0, 1, bits), -2);
            Checks.taken("3 -2 before -4, bits " + bits, row(8000), x -> x.fill(1, 1, bits), -2);
        }
        Checks.taken("3 8000 of none", Checks.NEW, x -> x.fill(8000, 1, 0), 8000);
        Checks.refused("3 -4 8001 of none", Checks.NEW, x -> x.fill(8001, 1, 0), -4);
        Checks.taken("3 the last one", row(7999), x -> x.fill(1, 1, 0), 8000);
        Checks.refused("3 -4 one too many", busy(7999), x -> x.fill(2, 1, 0), -4);
        Checks.refused("3 -4 of a full row", busy(8000), x -> x.fill(1, 1, 0), -4);
        Checks.refused("3 -4 the most, whose sum would wrap", busy(1), x -> x.fill(MOST, 1, 0), -4);
        Checks.taken("3 -4 the most of none", Checks.NEW, x -> x.fill(MOST, 1, 0), -4);
        Checks.taken("3 -4 the most of a full row", row(8000), x -> x.fill(MOST, 1, 7), -4);
    }

    /** 1664525 times it is 1 (wrapping). */
    private static int inverse() {
        int inverse = 1;
        for (int k = 0; k < 6; k++) {
            inverse *= 2 - 1664525 * inverse;
        }
        Checks.due("3 the test's own inverse", 1664525 * inverse, 1);
        return inverse;
    }

    private static void fillWraps() {
        for (int seed : new int[] {0, 1, -1, MOST, LEAST, 2580, -2580, 0x7FFFFF, 0x40000000}) {
            Checks.due("3 z wraps, seed " + seed, Checks.rowBytes(x -> x.fill(600, seed, 0)), Checks.filled(600, seed, 0));
            Checks.due("3 z wraps, bits 3, seed " + seed, Checks.rowBytes(x -> x.fill(60, seed, 3)), Checks.filled(60, seed, 3));
        }
        // What z becomes, and its byte by 0 and by 7 bits: zeros come in.
        int[][] cases = {
            {0, 0, 0}, {0x00FFFFFF, 0, 0}, {0x01000000, 1, 0}, {MOST, 127, 0}, {LEAST, 128, 1}, {0xFEFFFFFF, 254, 1},
            {0xFF000000, 255, 1}, {-1, 255, 1}};
        for (int[] one : cases) {
            int seed = (one[0] - 1013904223) * inverse();
            Checks.due("3 z becomes " + one[0], Checks.rowBytes(x -> { x.fill(1, seed, 0); x.fill(1, seed, 7); }),
                    Checks.ints(one[1], one[2]));
        }
        Checks.due("3 z is the seed at first, each time",
                Checks.rowBytes(x -> { x.fill(5, 7, 0); x.fill(5, 7, 0); }),
                Checks.join(Checks.filled(5, 7, 0), Checks.filled(5, 7, 0)));
    }

    private static void again() {
        Checks.taken("4 none of an empty row", Checks.NEW, x -> x.again(0, 0), 0);
        Checks.refused("4 -2 one of an empty row", Checks.NEW, x -> x.again(0, 1), -2);
        Checks.refused("4 -2 none behind an empty row's end", Checks.NEW, x -> x.again(1, 0), -2);
        Checks.taken("4 the first", row(10), x -> x.again(0, 1), 11);
        Checks.refused("4 -2 before the first", busy(10), x -> x.again(-1, 1), -2);
        Checks.refused("4 -2 none before the first", busy(10), x -> x.again(-1, 0), -2);
        Checks.taken("4 the last", row(10), x -> x.again(9, 1), 11);
        Checks.refused("4 -2 behind the last", busy(10), x -> x.again(10, 1), -2);
        Checks.taken("4 all", row(10), x -> x.again(0, 10), 20);
        Checks.refused("4 -2 all and one more", busy(10), x -> x.again(0, 11), -2);
        Checks.refused("4 -2 all, one later", busy(10), x -> x.again(1, 10), -2);
        Checks.taken("4 none at the end", row(10), x -> x.again(10, 0), 10);
        Checks.refused("4 none brings nothing", busy(10), x -> x.again(4, 0), 10);
        Checks.refused("4 -2 n below 0", busy(10), x -> x.again(4, -1), -2);
        Checks.refused("4 -2 n below 0, up to the end", busy(10), x -> x.again(11, -1), -2);
        int[][] far = {{MOST, 1}, {1, MOST}, {MOST, MOST}, {LEAST, LEAST}, {LEAST, 1}, {1, LEAST}, {LEAST, MOST}, {0, MOST}};
        for (int[] one : far) {
            Checks.refused("4 -2 of " + one[0] + ", " + one[1], busy(10), x -> x.again(one[0], one[1]), -2);
        }
        Checks.taken("4 up to 8000", row(4000), x -> x.again(0, 4000), 8000);
        Checks.refused("4 -4 8001", busy(4001), x -> x.again(0, 4000), -4);
        Checks.taken("4 up to 8000, the last", row(4001), x -> x.again(2, 3999), 8000);
        Checks.taken("4 one more than 7999", row(7999), x -> x.again(7998, 1), 8000);
        Checks.refused("4 -4 one of a full row", busy(8000), x -> x.again(7999, 1), -4);
        Checks.refused("4 -4 all of a full row", busy(8000), x -> x.again(0, 8000), -4);
        Checks.taken("4 -2 before -4", row(8000), x -> x.again(0, 8001), -2);
        Checks.taken("4 -2 before -4, the last", row(8000), x -> x.again(8000, 1), -2);
        Checks.taken("4 none of a full row", row(8000), x -> x.again(8000, 0), 8000);
        int[] ten = Checks.filled(10, 1, 0);
        Checks.due("4 the bytes of all", Checks.rowBytes(Checks.then(row(10), x -> x.again(0, 10))), Checks.join(ten, ten));
        Checks.due("4 the bytes of one", Checks.rowBytes(Checks.then(row(10), x -> x.again(9, 1))),
                Checks.join(ten, Checks.ints(ten[9])));
        int[] many = Checks.filled(4000, 1, 0);
        Checks.due("4 the bytes up to 8000", Checks.rowBytes(Checks.then(row(4000), x -> x.again(0, 4000))),
                Checks.join(many, many));
    }

    private static void size() {
        for (int n : new int[] {0, 1, 7999, 8000}) {
            Checks.taken("5 size of " + n, row(n), x -> x.size(), n);
            Checks.refused("5 size() changes nothing, " + n, busy(n), x -> x.size(), n);
        }
    }

    private static void set() {
        Checks.refused("6 -2 of an empty row", busy(0), x -> x.set(0, 1), -2);
        int[] bytes = Checks.filled(8000, 1, 0);
        for (int n : new int[] {1, 10, 8000}) {
            Checks.taken("6 the first of " + n, row(n), x -> x.set(0, 1), bytes[0]);
            Checks.taken("6 the last of " + n, row(n), x -> x.set(n - 1, 1), bytes[n - 1]);
            Checks.refused("6 -2 behind the last of " + n, busy(n), x -> x.set(n, 1), -2);
            Checks.refused("6 -2 before the first of " + n, busy(n), x -> x.set(-1, 1), -2);
        }
        Checks.taken("6 -2 the most", row(10), x -> x.set(MOST, 1), -2);
        Checks.taken("6 -2 the least", row(10), x -> x.set(LEAST, 1), -2);
        for (int b : new int[] {0, 1, 127, 128, 255}) {
            Checks.taken("6 b = " + b, row(10), x -> x.set(5, b), bytes[5]);
            Checks.taken("6 what it was, " + b, Checks.then(row(10), x -> x.set(5, b)), x -> x.set(5, 9), b);
            Checks.due("6 that byte alone, " + b, Checks.rowBytes(Checks.then(row(10), x -> x.set(5, b))),
                    Checks.with(Checks.filled(10, 1, 0), 5, b));
        }
        for (int b : new int[] {-1, 256, LEAST, MOST, -128}) {
            Checks.refused("6 -2 b = " + b, busy(10), x -> x.set(5, b), -2);
        }
        Checks.taken("6 -2 what was cut off", Checks.then(row(10), x -> x.cut(9)), x -> x.set(9, 1), -2);
        Checks.taken("6 what was kept", Checks.then(row(10), x -> x.cut(9)), x -> x.set(8, 1), bytes[8]);
    }

    private static void cut() {
        Checks.taken("7 none of an empty row", Checks.NEW, x -> x.cut(0), 0);
        Checks.refused("7 -2 one of an empty row", busy(0), x -> x.cut(1), -2);
        for (int n : new int[] {1, 10, 8000}) {
            Checks.taken("7 none of " + n, row(n), x -> x.cut(0), n);
            Checks.taken("7 all but one of " + n, row(n), x -> x.cut(n - 1), n);
            Checks.refused("7 all of " + n + " stay", busy(n), x -> x.cut(n), n);
            Checks.refused("7 -2 one more than " + n, busy(n), x -> x.cut(n + 1), -2);
            Checks.refused("7 -2 below 0 of " + n, busy(n), x -> x.cut(-1), -2);
            Checks.due("7 the first stay, " + n, Checks.rowBytes(Checks.then(row(n), x -> x.cut(n - 1))),
                    Checks.filled(n - 1, 1, 0));
            Checks.due("7 none stay, " + n, Checks.rowBytes(Checks.then(row(n), x -> x.cut(0))), Checks.NONE);
        }
        Checks.taken("7 -2 the most", row(10), x -> x.cut(MOST), -2);
        Checks.taken("7 -2 the least", row(10), x -> x.cut(LEAST), -2);
        Checks.due("7 what comes then is behind them",
                Checks.rowBytes(Checks.then(row(10), x -> { x.cut(4); x.feed(77, 1); })),
                Checks.join(Checks.filled(4, 1, 0), Checks.ints(77)));
        Checks.taken("7 there is room again", Checks.then(row(8000), x -> x.cut(7999)), x -> x.feed(1, 1), 8000);
    }

    private static void swap() {
        Checks.taken("8 both empty", Checks.NEW, x -> x.swap(), 0);
        Checks.taken("8 an empty one came out", row(8000), x -> x.swap(), 0);
        Checks.taken("8 a full one came out", Checks.then(row(8000), x -> x.swap()), x -> x.swap(), 8000);
        int[] full = Checks.filled(8000, 1, 0);
        Checks.Steps bothFull = x -> { x.fill(8000, 1, 0); x.swap(); x.fill(8000, 2, 0); };
        Checks.taken("8 both full", bothFull, x -> x.swap(), 8000);
        Checks.due("8 both full: the row", Checks.rowBytes(Checks.then(bothFull, x -> x.swap())), full);
        Checks.due("8 both full: what came out", Checks.outBytes(Checks.then(bothFull, x -> x.swap())),
                Checks.filled(8000, 2, 0));
        Checks.refused("8 there and back", busy(30), x -> { x.swap(); return x.swap(); }, 30);
        Checks.taken("8 a row that was what came out has room to 8000",
                Checks.then(x -> Checks.busy(x), x -> { x.swap(); x.cut(7); }), x -> x.fill(7993, 1, 0), 8000);
        Checks.taken("8 and no more", Checks.then(x -> Checks.busy(x), x -> { x.swap(); x.cut(7); }),
                x -> x.fill(7994, 1, 0), -4);
    }

    /** The row has n bytes, and what came out the first m of as many. */
    private static Checks.Steps lengths(int n, int m) {
        return x -> {
            x.fill(m, 1, 0);
            x.swap();
            x.fill(n, 1, 0);
        };
    }

    private static void differ() {
        Checks.taken("9 -3 both empty", Checks.NEW, x -> x.differ(), -3);
        Checks.refused("9 -3 the same", lengths(7, 7), x -> x.differ(), -3);
        Checks.taken("9 -3 the same, full", lengths(8000, 8000), x -> x.differ(), -3);
        Checks.taken("9 the row has one, the other none", lengths(1, 0), x -> x.differ(), 0);
        Checks.taken("9 the row has none, the other one", lengths(0, 1), x -> x.differ(), 0);
        Checks.taken("9 the row ends", lengths(6, 7), x -> x.differ(), 6);
        Checks.taken("9 what came out ends", lengths(7, 6), x -> x.differ(), 6);
        Checks.taken("9 the row ends, full", lengths(7999, 8000), x -> x.differ(), 7999);
        Checks.taken("9 what came out ends, full", lengths(8000, 7999), x -> x.differ(), 7999);
        for (int i : new int[] {0, 1, 3998, 7998, 7999}) {
            Checks.taken("9 at " + i, Checks.then(lengths(8000, 8000), x -> x.set(i, x.out(i) ^ 128)), x -> x.differ(), i);
        }
        Checks.taken("9 the first of several", Checks.then(lengths(9, 8), x -> { x.set(5, x.out(5) ^ 1); x.set(2, x.out(2) ^ 1); }),
                x -> x.differ(), 2);
        for (int b : new int[] {0, 255}) {
            Checks.taken("9 a byte " + b + " where the other ends", Checks.rowOf(b), x -> x.differ(), 0);
            Checks.taken("9 a byte " + b + " where the row ends", Checks.then(Checks.rowOf(b), x -> x.swap()), x -> x.differ(), 0);
        }
        Checks.taken("9 0 against 255", x -> { x.feed(0, 1); x.swap(); x.feed(255, 1); }, x -> x.differ(), 0);
        Checks.refused("9 differ() changes nothing", busy(30), x -> x.differ(), 0);
    }

    private static void out() {
        Checks.refused("10 -2 of an empty one", row(5), x -> x.out(0), -2);
        int[] bytes = Checks.filled(8000, 1, 0);
        for (int n : new int[] {1, 10, 8000}) {
            Checks.Steps came = Checks.then(row(n), x -> x.swap());
            Checks.taken("10 the first of " + n, came, x -> x.out(0), bytes[0]);
            Checks.taken("10 the last of " + n, came, x -> x.out(n - 1), bytes[n - 1]);
            Checks.refused("10 -2 behind the last of " + n, came, x -> x.out(n), -2);
            Checks.refused("10 -2 before the first of " + n, came, x -> x.out(-1), -2);
            Checks.taken("10 -2 the most of " + n, came, x -> x.out(MOST), -2);
            Checks.taken("10 -2 the least of " + n, came, x -> x.out(LEAST), -2);
        }
        for (int b : new int[] {0, 127, 128, 255}) {
            Checks.taken("10 a byte " + b, Checks.then(Checks.rowOf(b), x -> x.swap()), x -> x.out(0), b);
        }
        Checks.taken("10 -2 where a longer one was before",
                x -> { x.fill(50, 1, 0); x.swap(); x.open(); x.make(0); }, x -> x.out(5), -2);
    }

    private static void old() {
        for (int n : new int[] {0, 1, 3999, 4000}) {
            Checks.taken("11 old() of " + n, row(n), x -> x.old(), n);
            Checks.due("11 OLD's bytes, " + n, Checks.oldBytes(Checks.then(row(n), x -> x.old())), Checks.filled(n, 1, 0));
            Checks.due("11 the row stays, " + n, Checks.rowBytes(Checks.then(row(n), x -> x.old())), Checks.filled(n, 1, 0));
        }
        for (int n : new int[] {4001, 8000}) {
            Checks.refused("11 -4 of " + n, busy(n), x -> x.old(), -4);
            Checks.refused("11 -4 of " + n + ", a new object", row(n), x -> x.old(), -4);
        }
        Checks.Steps changed = x -> {
            x.fill(20, 1, 0);
            x.old();
            x.set(3, 0);
            x.cut(9);
            x.fill(7, 5, 0);
        };
        Checks.due("11 it stays when the row changes", Checks.oldBytes(changed), Checks.filled(20, 1, 0));
        Checks.due("11 a shorter one", Checks.oldBytes(Checks.then(changed, x -> { x.cut(2); x.old(); })), Checks.filled(2, 1, 0));
        Checks.due("11 none again", Checks.oldBytes(Checks.then(changed, x -> { x.cut(0); x.old(); })), Checks.NONE);
    }
}
