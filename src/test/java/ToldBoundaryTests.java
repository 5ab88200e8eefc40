import java.util.Arrays;

/** Promises 16 to 20: each boundary that the document names, on both sides. */
public final class ToldBoundaryTests {
    private static final int LEAST = Integer.MIN_VALUE;
    private static final int MOST = Integer.MAX_VALUE;
    private static final int[] NONE = Checks.NONE;
    private static final int[] HEAD = Checks.HEAD;
    private static final int[] SAME_TABLE = Checks.join(
            HEAD, Checks.window(1, 1536, 0, 1536, NONE, Checks.ints(19, 140, 0), Checks.ints(0)));

    public static void main(String[] args) {
        place();
        toldRange();
        toldWindows();
        toldInstructions();
        toldDoubles();
        toldHead();
        instruction();
        first2000();
        table();
        cacheRange();
        nearGoesRound();
        sameGoesRound();
        cacheOfWindows();
        Checks.finish();
    }

    private static VcdiffForms opened(int[]... file) {
        VcdiffForms x = Checks.made(Checks.rowOf(Checks.join(file)));
        x.open();
        return x;
    }

    private static int[] run(int n) {
        return Checks.plain(n, Checks.ints(9), Checks.join(Checks.ints(0), Checks.big(n)), NONE);
    }

    // ---- Promise 16.

    private static void place() {
        Checks.refused("16 before any open()", Checks.NEW, x -> x.place(), -1);
        Checks.taken("16 make() is no open()", x -> x.make(8), x -> x.place(), -1);
        Checks.due("16 without a FAULT", opened(HEAD).place(), -1);
        Checks.due("16 a FAULT at 0, of an empty row", opened(NONE).place(), 0);
        Checks.due("16 a FAULT at 0", opened(Checks.times(5, 0)).place(), 0);
        Checks.refused("16 it changes nothing", x -> Checks.busy(x), x -> x.place(), -1);
        VcdiffForms x = opened(Checks.head(1));
        Checks.due("16 of the latest", x.place(), 4);
        x.set(4, 0);
        Checks.due("16 the row does not matter", x.place(), 4);
        x.make(0);
        Checks.due("16 nor does make()", x.place(), 4);
        x.open();
        Checks.due("16 none again", x.place(), -1);
        // The last place of a full row, and the place behind it.
        Checks.Steps full = y -> {
            Checks.feed(y, Checks.join(Checks.head(4), Checks.big(7992)));
            y.fill(7992, 1, 0);
        };
        Checks.faults("16 the last of 8000", Checks.then(full, y -> y.feed(8, 1)), 6, 7999);
        Checks.faults("16 behind the last of 8000", Checks.then(full, y -> y.feed(0, 1)), 1, 8000);
    }

    // ---- Promise 17.

    private static void toldRange() {
        for (int what = 0; what <= 9; what++) {
            int k = what;
            Checks.taken("17 before any, told(" + what + ")", Checks.NEW, x -> x.told(k), what == 8 ? 4 : what == 9 ? 3 : 0);
        }
        for (int what : new int[] {-1, 10, LEAST, MOST}) {
            Checks.refused("17 -2 told(" + what + ")", x -> Checks.busy(x), x -> x.told(what), -2);
            Checks.taken("17 -2 before any, told(" + what + ")", Checks.NEW, x -> x.told(what), -2);
        }
        VcdiffForms x = Checks.made(y -> Checks.busy(y));
        x.cut(0);
        x.open();
        Checks.toldIs("17 of an empty row", x, 0, 0, 0, 0, 0, 0, 0, 0, 4, 3);
    }

    private static void toldWindows() {
        Checks.due("17 no windows", opened(HEAD).told(0), 0);
        Checks.due("17 one window", opened(HEAD, run(1)).told(0), 1);
        Checks.due("17 a window's first byte alone", opened(HEAD, Checks.ints(0)).told(0), 1);
        Checks.due("17 a wrong first byte", opened(HEAD, Checks.ints(3)).told(0), 0);
        Checks.due("17 a second one's first byte alone", opened(HEAD, run(1), Checks.ints(6)).told(0), 2);
        Checks.due("17 a second one's wrong first byte", opened(HEAD, run(1), Checks.ints(7)).told(0), 1);
        int[] many = HEAD;
        for (int k = 0; k < 100; k++) {
            many = Checks.join(many, Checks.plain(0, NONE, NONE, NONE));
        }
        Checks.due("17 a hundred windows of no bytes", opened(many).told(0), 100);
        Checks.Steps most = x -> {
            Checks.feed(x, HEAD);
            x.feed(0, 1);
            x.feed(0x050000000000L, 6);
            x.again(5, 7);
            for (int n = 14; n <= 3584; n *= 2) {
                x.again(5, n);
            }
            x.again(5, 7995 - 7168 - 1);
        };
        Checks.due("17 as many windows as a row can have", Checks.made(most).size(), 7999);
        Checks.opens("15 as many windows as a row can have", most, 0);
        Checks.taken("17 as many windows as a row can have", Checks.then(most, x -> x.open()), x -> x.told(0), 1142);
    }

    private static void toldInstructions() {
        VcdiffForms x = opened(HEAD, Checks.plain(0, NONE, NONE, NONE));
        Checks.toldIs("17 no instructions", x, 1, 0, 0, 0, 0, 0, 0, 0, 4, 3);
        x = opened(HEAD, Checks.plain(1, Checks.bytes("az"), Checks.ints(2, 1, 0, 0, 0, 19, 0), Checks.ints(0)));
        Checks.toldIs("17 instructions of none count", x, 1, 2, 1, 1, 0, 1, 0, 0, 4, 3);
        // Through or not: each of the three, without a FAULT and with one.
        x = opened(HEAD, Checks.plain(3, Checks.bytes("abc"), Checks.ints(4), NONE));
        Checks.toldIs("17 an ADD", x, 1, 1, 0, 0, 0, 3, 0, 0, 4, 3);
        x = opened(HEAD, Checks.plain(3, Checks.bytes("ab"), Checks.ints(4), NONE));
        Checks.toldIs("17 an ADD that was not through", x, 1, 0, 0, 0, 0, 0, 0, 0, 4, 3);
        x = opened(HEAD, run(5));
        Checks.toldIs("17 a RUN", x, 1, 0, 1, 0, 0, 5, 0, 0, 4, 3);
        x = opened(HEAD, Checks.plain(5, NONE, Checks.ints(0, 5), NONE));
        Checks.toldIs("17 a RUN that was not through", x, 1, 0, 0, 0, 0, 0, 0, 0, 4, 3);
        x = opened(HEAD, Checks.plain(5, Checks.ints(7), Checks.ints(2, 20), Checks.ints(0)));
        Checks.toldIs("17 a COPY", x, 1, 1, 0, 1, 0, 5, 0, 0, 4, 3);
        x = opened(HEAD, Checks.plain(5, Checks.ints(7), Checks.ints(2, 20), Checks.ints(1)));
        Checks.toldIs("17 a COPY that was not through", x, 1, 1, 0, 0, 0, 1, 0, 0, 4, 3);
        x = opened(HEAD, Checks.plain(6, Checks.ints(7), Checks.ints(2, 20), Checks.ints(0)));
        Checks.toldIs("17 a target that is not full", x, 1, 1, 0, 1, 0, 5, 0, 0, 4, 3);
        x = opened(HEAD, Checks.summed(4, 0, 0, 5, Checks.ints(0, 0, 0, 0), Checks.ints(7), Checks.ints(2, 20), Checks.ints(0)));
        Checks.toldIs("17 another sum", x, 1, 1, 0, 1, 0, 5, 0, 0, 4, 3);
        x = opened(HEAD, run(8000));
        Checks.toldIs("17 8000 bytes", x, 1, 0, 1, 0, 0, 8000, 0, 0, 4, 3);
        x = opened(HEAD, run(8000), run(1));
        Checks.toldIs("17 8000 bytes, and fault 10", x, 2, 0, 1, 0, 0, 8000, 0, 0, 4, 3);
    }

    private static void toldDoubles() {
        VcdiffForms x = opened(HEAD, Checks.plain(5, Checks.ints(7), Checks.ints(163), Checks.ints(0)));
        Checks.toldIs("17 a code of two", x, 1, 1, 0, 1, 1, 5, 0, 0, 4, 3);
        x = opened(HEAD, Checks.plain(4, Checks.ints(7), Checks.ints(163), Checks.ints(0)));
        Checks.toldIs("17 begun: the second was not through", x, 1, 1, 0, 0, 1, 1, 0, 0, 4, 3);
        x = opened(HEAD, Checks.plain(5, NONE, Checks.ints(163), Checks.ints(0)));
        Checks.toldIs("17 begun: the first was not through", x, 1, 0, 0, 0, 1, 0, 0, 0, 4, 3);
        x = opened(HEAD, Checks.plain(5, Checks.ints(7), Checks.ints(2), Checks.ints(0)));
        Checks.toldIs("17 a code of one", x, 1, 1, 0, 0, 0, 1, 0, 0, 4, 3);
        // Codes 8 and 9 have nothing first, nothing second; 10 nothing at all.
        Checks.Steps nothings = y -> {
            y.entry(8, 0, 0);
            y.entry(8, 1, 0);
            y.entry(8, 3, 1);
            y.entry(8, 4, 2);
            y.entry(10, 0, 0);
            y.entry(10, 1, 0);
            y.make(2);
            y.swap();
            Checks.feed(y, Checks.plain(10, Checks.bytes("0123456789"), Checks.ints(10, 8, 10, 9), NONE));
            y.open();
        };
        Checks.toldIs("17 nothing is none of two", Checks.made(nothings), 1, 2, 0, 0, 0, 10, 0, 1, 4, 3);
        Checks.due("18 nothing is not counted", Checks.instructions(Checks.made(nothings)), "A2 A8");
    }

    private static void toldHead() {
        Checks.due("17 no appendix", opened(HEAD).told(6), 0);
        Checks.due("17 an appendix of none", opened(Checks.head(4), Checks.ints(0)).told(6), 0);
        Checks.due("17 an appendix of one", opened(Checks.head(4), Checks.ints(1, 9)).told(6), 1);
        Checks.due("17 an appendix without a size", opened(Checks.head(4)).told(6), 0);
        Checks.due("17 an appendix with half of a size", opened(Checks.head(4), Checks.ints(129)).told(6), 0);
        Checks.due("17 an appendix with a wrong size", opened(Checks.head(4), Checks.times(5, 255)).told(6), 0);
        Checks.due("17 an appendix, and a fault behind it", opened(Checks.head(4), Checks.ints(1, 9, 8)).told(6), 1);
        Checks.toldIs("17 a table", opened(Checks.tableHead(2, 9, 16, SAME_TABLE)), 0, 0, 0, 0, 0, 0, 0, 1, 9, 16);
        Checks.toldIs("17 a table, and a fault behind it", opened(Checks.tableHead(2, 9, 16, SAME_TABLE), Checks.ints(8)),
                0, 0, 0, 0, 0, 0, 0, 1, 9, 16);
        Checks.toldIs("17 a table that is not taken", opened(Checks.tableHead(2, 9, 17, SAME_TABLE)), 0, 0, 0, 0, 0, 0, 0, 0, 4, 3);
        Checks.toldIs("17 a table whose bytes are missing", opened(Arrays.copyOf(Checks.tableHead(2, 9, 16, SAME_TABLE), 20)),
                0, 0, 0, 0, 0, 0, 0, 0, 4, 3);
        VcdiffForms x = opened(Checks.tableHead(2, 9, 16, SAME_TABLE));
        x.cut(0);
        Checks.feed(x, HEAD);
        x.open();
        Checks.toldIs("17 no table behind one", x, 0, 0, 0, 0, 0, 0, 0, 0, 4, 3);
    }

    // ---- Promise 18.

    private static void instruction() {
        Checks.refused("18 -2 before any", Checks.NEW, x -> x.instruction(0, 0), -2);
        Checks.Steps three = Checks.then(Checks.rowOf(Checks.join(HEAD,
                Checks.plain(10, Checks.bytes("ab"), Checks.ints(2, 0, 5, 36), Checks.ints(6)))), x -> x.open());
        Checks.due("18 three of them", Checks.instructions(Checks.made(three)), "A1 R5 C4@0m1");
        int[][] want = {{1, 1, -1, 0}, {2, 5, -1, 0}, {3, 4, 0, 1}};
        for (int i = 0; i < 3; i++) {
            for (int what = 0; what < 4; what++) {
                int row = i;
                int k = what;
                Checks.taken("18 instruction(" + i + ", " + what + ")", three, x -> x.instruction(row, k), want[i][what]);
            }
        }
        int[][] wrong = {{-1, 0}, {3, 0}, {0, -1}, {0, 4}, {2, 4}, {3, 3}, {MOST, 0}, {LEAST, 0}, {0, MOST}, {0, LEAST}, {-1, 4}, {1, -4}};
        for (int[] one : wrong) {
            Checks.refused("18 -2 instruction(" + one[0] + ", " + one[1] + ")", three, x -> x.instruction(one[0], one[1]), -2);
        }
        Checks.taken("18 -2 of a later open() without any", Checks.then(three, x -> { x.cut(5); x.open(); }), x -> x.instruction(0, 0), -2);
        Checks.due("18 what was through before a FAULT", Checks.instructions(opened(HEAD,
                Checks.plain(4, Checks.bytes("a"), Checks.ints(163), Checks.ints(0)))), "A1");
        Checks.due("18 of all windows", Checks.instructions(opened(HEAD, run(5), run(6))), "R5 R6");
        // The address is one in SPACE: behind a segment of 3 the target's first byte is 3.
        Checks.due("18 an address in SPACE", Checks.instructions(opened(HEAD, run(5),
                Checks.window(2, 3, 1, 9, Checks.bytes("a"), Checks.ints(2, 20, 20), Checks.ints(2, 3)))), "R5 A1 C4@2m0 C4@3m0");
    }

    /** So many ADDS of no bytes, told by two bytes each, behind one ADD of 1. */
    private static Checks.Steps adds(int n) {
        return x -> {
            int[] codes = Checks.big(2 * n + 1);
            int[] follows = Checks.big(4 + codes.length + 2 * n + 2);
            Checks.feed(x, Checks.join(HEAD, Checks.ints(0), follows, Checks.ints(1, 0, 1), codes, Checks.ints(0, 'a', 2)));
            int begin = x.size();
            x.feed(0x0100, 2);
            for (int have = 2; have < 2 * n; have *= 2) {
                x.again(begin, Math.min(have, 2 * n - have));
            }
            x.open();
        };
    }

    private static void first2000() {
        for (int n : new int[] {1998, 1999, 2000, 2001, 3000}) {
            VcdiffForms x = Checks.made(adds(n));
            Checks.due("18 " + (n + 1) + " instructions", x.told(1), n + 1);
            Checks.due("18 the first of " + (n + 1), x.instruction(0, 1), 1);
            Checks.due("18 number 1998 of " + (n + 1), x.instruction(1998, 1), 0);
            Checks.due("18 number 1999 of " + (n + 1), x.instruction(1999, 1), n >= 1999 ? 0 : -2);
            Checks.due("18 number 2000 of " + (n + 1), x.instruction(2000, 1), -2);
            Checks.due("18 number 2001 of " + (n + 1), x.instruction(2001, 1), -2);
            Checks.due("18 the last one's kind of " + (n + 1), x.instruction(Math.min(n, 1999), 0), 1);
            Checks.due("18 the last one's address of " + (n + 1), x.instruction(Math.min(n, 1999), 2), -1);
            Checks.due("18 the last one's MODE of " + (n + 1), x.instruction(Math.min(n, 1999), 3), 0);
        }
    }

    // ---- Promise 19.

    private static void table() {
        for (int i : new int[] {0, 255}) {
            for (int what = 0; what <= 5; what++) {
                int k = what;
                int cell = (what % 3 * 2 + what / 3) * 256 + i;
                Checks.taken("19 table(" + i + ", " + what + ")", Checks.NEW, x -> x.table(i, k), Checks.usualBytes()[cell]);
            }
        }
        int[][] wrong = {{-1, 0}, {256, 0}, {0, -1}, {0, 6}, {255, 6}, {256, 5}, {MOST, 0}, {LEAST, 0}, {0, MOST}, {0, LEAST}, {1, -3}};
        for (int[] one : wrong) {
            Checks.refused("19 -2 table(" + one[0] + ", " + one[1] + ")", x -> Checks.busy(x), x -> x.table(one[0], one[1]), -2);
            Checks.taken("19 -2 before any, table(" + one[0] + ", " + one[1] + ")", Checks.NEW, x -> x.table(one[0], one[1]), -2);
        }
        // Code 0 and code 255: the ends of each of the six parts.
        int[] bytes = Checks.usualBytes();
        Checks.lay(bytes, 0, 3, 255, 7, 2, 254, 0);
        Checks.lay(bytes, 255, 2, 253, 0, 3, 252, 6);
        Checks.Steps told = Checks.then(Checks.rowOf(Checks.tableHead(2, 4, 3, Checks.adds(bytes))), x -> x.open());
        Checks.due("19 a table with other bytes at the ends of its six parts", Checks.tableBytes(told, false), bytes);
        Checks.due("19 the USUAL one behind a FAULT before the TABLE",
                Checks.tableBytes(Checks.then(told, x -> { x.set(0, 0); x.open(); }), false), Checks.usualBytes());
        Checks.due("19 THE TABLE with a FAULT behind it",
                Checks.tableBytes(Checks.then(told, x -> { x.feed(8, 1); x.open(); }), false), bytes);
    }

    // ---- Promise 20.

    private static void cacheRange() {
        int[][] numbers = {{4, 3}, {0, 7}, {0, 16}, {7, 0}, {32, 0}, {32, 16}, {1, 6}, {6, 1}};
        for (int[] one : numbers) {
            int near = one[0];
            int same = 256 * one[1];
            Checks.Steps steps = Checks.then(Checks.rowOf(Checks.tableHead(2, one[0], one[1], SAME_TABLE)), x -> x.open());
            String name = "N " + one[0] + ", S " + one[1];
            if (near > 0) {
                Checks.taken("20 the last of near, " + name, steps, x -> x.cache(0, near - 1), 0);
                Checks.taken("20 the first of near, " + name, steps, x -> x.cache(0, 0), 0);
            }
            Checks.refused("20 -2 behind near, " + name, steps, x -> x.cache(0, near), -2);
            if (same > 0) {
                Checks.taken("20 the last of same, " + name, steps, x -> x.cache(1, same - 1), 0);
                Checks.taken("20 the first of same, " + name, steps, x -> x.cache(1, 0), 0);
            }
            Checks.refused("20 -2 behind same, " + name, steps, x -> x.cache(1, same), -2);
        }
        int[][] wrong = {{-1, 0}, {2, 0}, {MOST, 0}, {LEAST, 0}, {0, -1}, {1, -1}, {0, MOST}, {1, MOST}, {0, LEAST}, {1, LEAST}};
        for (int[] one : wrong) {
            Checks.refused("20 -2 cache(" + one[0] + ", " + one[1] + ")", x -> Checks.busy(x), x -> x.cache(one[0], one[1]), -2);
        }
        Checks.taken("20 before any, near 3", Checks.NEW, x -> x.cache(0, 3), 0);
        Checks.taken("20 before any, -2 near 4", Checks.NEW, x -> x.cache(0, 4), -2);
        Checks.taken("20 before any, same 767", Checks.NEW, x -> x.cache(1, 767), 0);
        Checks.taken("20 before any, -2 same 768", Checks.NEW, x -> x.cache(1, 768), -2);
        Checks.Steps larger = Checks.then(Checks.rowOf(Checks.tableHead(2, 32, 16, SAME_TABLE)), x -> { x.open(); x.cut(0); x.open(); });
        Checks.taken("20 behind a larger one, near 3", larger, x -> x.cache(0, 3), 0);
        Checks.taken("20 behind a larger one, -2 near 4", larger, x -> x.cache(0, 4), -2);
        Checks.taken("20 behind a larger one, -2 same 768", larger, x -> x.cache(1, 768), -2);
    }

    /** A table of N and S, then a RUN of 200, and so many COPIES of 4 from 1, 2, 3 .. on. */
    private static Checks.Steps copies(int near, int same, int n) {
        int[] codes = Checks.join(Checks.ints(0), Checks.big(200), Checks.times(n, 20));
        int[] addresses = new int[n];
        Arrays.setAll(addresses, k -> k + 1);
        int[] file = Checks.join(Checks.tableHead(2, near, same, SAME_TABLE),
                Checks.plain(200 + 4 * n, Checks.ints(9), codes, addresses));
        return Checks.then(Checks.rowOf(file), x -> x.open());
    }

    private static void nearGoesRound() {
        for (int near : new int[] {1, 2, 4, 7, 31, 32}) {
            for (int n : new int[] {0, 1, near - 1, near, near + 1, 2 * near - 1, 2 * near, 2 * near + 1, 3 * near}) {
                VcdiffForms x = Checks.made(copies(near, 7, n));
                Checks.due("20 N " + near + ", " + n + " copies are through", x.told(3), n);
                for (int i = 0; i < near; i++) {
                    // The latest k below n with k % N = i; its address is k + 1.
                    int latest = n - 1 - Math.floorMod(n - 1 - i, near);
                    Checks.due("20 N " + near + ", " + n + " copies, near " + i, x.cache(0, i), latest < 0 ? 0 : latest + 1);
                }
            }
        }
        VcdiffForms x = Checks.made(copies(0, 7, 5));
        Checks.due("20 N 0: copies are through", x.told(3), 5);
        Checks.due("20 N 0: same still is told", x.cache(1, 5), 5);
        Checks.due("20 N 0: -2", x.cache(0, 0), -2);
    }

    /** A RUN of 5000, then COPIES of 4 from these places on. */
    private static Checks.Steps from(int near, int same, int... places) {
        int[] codes = Checks.join(Checks.ints(0), Checks.big(5000), Checks.times(places.length, 20));
        int[] addresses = NONE;
        for (int place : places) {
            addresses = Checks.join(addresses, Checks.big(place));
        }
        int[] file = Checks.join(Checks.tableHead(2, near, same, SAME_TABLE),
                Checks.plain(5000 + 4 * places.length, Checks.ints(9), codes, addresses));
        return Checks.then(Checks.rowOf(file), x -> x.open());
    }

    private static void sameGoesRound() {
        for (int same : new int[] {1, 2, 3, 15, 16}) {
            int slots = 256 * same;
            VcdiffForms x = Checks.made(from(32, same, slots - 1, slots, slots + 1, 255, 256));
            Checks.due("20 S " + same + ", all are through", x.told(3), 5);
            Checks.due("20 S " + same + ", the first", x.cache(1, 0), same == 1 ? 256 : slots);
            Checks.due("20 S " + same + ", the second", x.cache(1, 1), slots + 1);
            Checks.due("20 S " + same + ", 255", x.cache(1, 255), 255);
            Checks.due("20 S " + same + ", the last", x.cache(1, slots - 1), slots - 1);
            Checks.due("20 S " + same + ", behind the last", x.cache(1, slots), -2);
            x = Checks.made(from(32, same, slots, 0));
            Checks.due("20 S " + same + ", 0 takes the first", x.cache(1, 0), 0);
            x = Checks.made(from(32, same, 0, slots));
            Checks.due("20 S " + same + ", the first one behind all takes it", x.cache(1, 0), slots);
        }
        VcdiffForms x = Checks.made(from(7, 0, 300, 4999));
        Checks.due("20 S 0: copies are through", x.told(3), 2);
        Checks.due("20 S 0: near still is told", x.cache(0, 1), 4999);
        Checks.due("20 S 0: -2", x.cache(1, 0), -2);
        // A COPY of none goes to both as well.
        x = opened(HEAD, Checks.plain(9, Checks.times(9, 1), Checks.ints(10, 19, 0), Checks.ints(7)));
        Checks.due("20 a COPY of none, near", x.cache(0, 0), 7);
        Checks.due("20 a COPY of none, same", x.cache(1, 7), 7);
        // What was not through does not.
        x = opened(HEAD, Checks.plain(13, Checks.times(9, 1), Checks.ints(10, 20, 20), Checks.ints(7, 8)));
        Checks.due("20 the second COPY is too much", x.told(3), 1);
        Checks.due("20 only the first is in near", x.cache(0, 1), 0);
        Checks.due("20 only the first is in same", x.cache(1, 8), 0);
    }

    private static void cacheOfWindows() {
        int[] copies = Checks.plain(13, Checks.bytes("abcde"), Checks.ints(6, 20, 20), Checks.ints(3, 4));
        VcdiffForms x = opened(HEAD, copies);
        Checks.due("20 near 0 and 1", x.cache(0, 0) * 10 + x.cache(0, 1), 34);
        x = opened(HEAD, copies, Checks.plain(1, Checks.ints(7), Checks.ints(2), NONE));
        Checks.due("20 0 in each WINDOW: near", x.cache(0, 0) + x.cache(0, 1), 0);
        Checks.due("20 0 in each WINDOW: same", x.cache(1, 3) + x.cache(1, 4), 0);
        beforeInstructions(copies);
        x = opened(HEAD, copies, run(5));
        Checks.due("20 0 in each WINDOW, behind a RUN: near", x.cache(0, 0) + x.cache(0, 1), 0);
        Checks.due("20 0 in each WINDOW, behind a RUN: same", x.cache(1, 3) + x.cache(1, 4), 0);
        x = opened(HEAD, copies, Checks.window(2, 5, 0, 4, NONE, Checks.ints(20), Checks.ints(1)));
        Checks.due("20 0 in each WINDOW, behind a COPY: near", x.cache(0, 0) * 10 + x.cache(0, 1), 10);
        Checks.due("20 0 in each WINDOW, behind a COPY: same", x.cache(1, 3) + x.cache(1, 4), 0);
        // The first of near is next again.
        x = opened(HEAD, copies, Checks.plain(9, Checks.bytes("abcde"), Checks.ints(6, 20), Checks.ints(2)));
        Checks.due("20 in a second WINDOW the first is next", x.cache(0, 0), 2);
        Checks.due("20 and the second is 0", x.cache(0, 1), 0);
        x = opened(Checks.tableHead(2, 4, 3, Checks.join(HEAD,
                Checks.window(1, 1536, 0, 1536, NONE, Checks.ints(19, 132, 0, 19, 136, 0), Checks.ints(0, 132, 0)))));
        Checks.due("20 a table's file has its own", x.told(7), 1);
        Checks.due("20 a table's file has its own: near", x.cache(0, 1), 0);
        x = opened(HEAD, copies);
        x.cut(0);
        x.open();
        Checks.due("20 0 in a later open() before any WINDOW's", x.cache(0, 0), 0);
        Checks.due("20 same as well", x.cache(1, 3), 0);
    }

    /** A second window's own are told from where its instructions begin; before, those of the first one. */
    private static void beforeInstructions(int[] copies) {
        int[] window = Checks.plain(5, Checks.bytes("a"), Checks.ints(2, 20), Checks.ints(0));
        for (int n = 1; n < window.length; n++) {
            VcdiffForms x = opened(HEAD, copies, Arrays.copyOf(window, n));
            Checks.due("20 a FAULT in a second WINDOW's first bytes, " + n, x.cache(0, 0) * 10 + x.cache(0, 1), 34);
            Checks.due("20 a FAULT in a second WINDOW's first bytes, " + n + ", same", x.cache(1, 3) * 10 + x.cache(1, 4), 34);
        }
        VcdiffForms x = opened(HEAD, copies, Checks.ints(8));
        Checks.due("20 a second WINDOW's wrong first byte", x.cache(0, 0) * 10 + x.cache(0, 1), 34);
        x = opened(HEAD, copies, Checks.plain(4, NONE, Checks.ints(20), Checks.ints(0)));
        Checks.due("20 a FAULT at a second WINDOW's first instruction", x.cache(0, 0) + x.cache(0, 1), 0);
        Checks.due("20 a FAULT at a second WINDOW's first instruction, same", x.cache(1, 3) + x.cache(1, 4), 0);
    }
}
