/** Promises 12 and 13, and when a TABLE is GOOD: each boundary that the document names, on both sides. */
public final class GivenBoundaryTests {
    private static final int LEAST = Integer.MIN_VALUE;
    private static final int MOST = Integer.MAX_VALUE;
    private static final int[] USUAL = Checks.usualBytes();

    public static void main(String[] args) {
        given();
        entry();
        usual();
        goodKinds();
        goodSizesAndModes();
        goodModesOfCopy();
        goodInEveryCode();
        Checks.finish();
    }

    private static void given() {
        int[][] taken = {{0, 0}, {32, 16}, {32, 0}, {0, 16}, {1, 1}, {31, 15}, {4, 3}};
        for (int[] one : taken) {
            String what = "12 given(" + one[0] + ", " + one[1] + ")";
            Checks.Steps after = x -> {
                Checks.busy(x);
                x.given(one[0], one[1]);
            };
            Checks.taken(what, x -> Checks.busy(x), x -> x.given(one[0], one[1]), 256);
            Checks.due(what + ": all else is as usual", Checks.tableBytes(after, true), USUAL);
            // The usual table has MODES up to 8, so it is good if N + S is 7 or more.
            Checks.due(what + ": N and S", Checks.givenNumbers(after), one[0] + one[1] < 7 ? Checks.NONE : one);
        }
        int[][] refused = {
            {33, 3}, {-1, 3}, {4, 17}, {4, -1}, {33, 17}, {-1, -1}, {-1, 17}, {33, -1},
            {MOST, 3}, {LEAST, 3}, {4, MOST}, {4, LEAST}, {256, 3}, {4, 256}};
        for (int[] one : refused) {
            Checks.refused("12 -2 given(" + one[0] + ", " + one[1] + ")", x -> Checks.busy(x), x -> x.given(one[0], one[1]), -2);
        }
    }

    private static void entry() {
        for (int i : new int[] {0, 255}) {
            for (int what = 0; what <= 5; what++) {
                int k = what;
                int cell = (what % 3 * 2 + what / 3) * 256 + i;
                for (int v : new int[] {0, 1, 127, 128, 255}) {
                    String name = "13 entry(" + i + ", " + what + ", " + v + ")";
                    Checks.taken(name, Checks.NEW, x -> x.entry(i, k, v), USUAL[cell]);
                    Checks.taken(name + ": what it was", x -> x.entry(i, k, v), x -> x.entry(i, k, 9), v);
                    Checks.due(name + ": that alone", Checks.tableBytes(x -> x.entry(i, k, v), true), Checks.with(USUAL, cell, v));
                }
            }
        }
        int[][] refused = {
            {-1, 0, 1}, {256, 0, 1}, {MOST, 0, 1}, {LEAST, 0, 1}, {0, -1, 1}, {0, 6, 1}, {0, MOST, 1}, {0, LEAST, 1},
            {0, 0, -1}, {0, 0, 256}, {0, 0, MOST}, {0, 0, LEAST}, {255, 5, 256}, {255, 6, 255}, {256, 5, 255}, {255, 5, -1},
            {-1, 3, 1}, {1, -3, 1}};
        for (int[] one : refused) {
            Checks.refused("13 -2 entry(" + one[0] + ", " + one[1] + ", " + one[2] + ")",
                    x -> Checks.busy(x), x -> x.entry(one[0], one[1], one[2]), -2);
        }
        Checks.due("13 THE TABLE of open() is another one",
                Checks.tableBytes(x -> x.entry(0, 0, 1), false), USUAL);
    }

    private static void usual() {
        Checks.due("19 before any open() the USUAL one", Checks.tableBytes(Checks.NEW, false), USUAL);
        Checks.Steps toldByMake = x -> {
            x.entry(9, 1, 33);
            x.entry(200, 5, 7);
            x.make(2);
            x.swap();
            x.open();
        };
        Checks.due("19 THE TABLE that was given", Checks.tableBytes(toldByMake, false), Checks.tableBytes(toldByMake, true));
        Checks.due("19 the USUAL one behind it", Checks.tableBytes(Checks.then(toldByMake, x -> { x.feed(0, 0); x.open(); }), false),
                USUAL);
    }

    // ---- GOOD: judged of the GIVEN table by make() and of THE TABLE by open().

    /** Both judge a table that is the usual one but for one code's six numbers. */
    private static void good(String what, boolean isGood, int near, int same, int code, int... six) {
        int[] table = USUAL.clone();
        Checks.lay(table, code, six);
        judged(what, isGood, near, same, table, x -> {
            x.given(near, same);
            for (int k = 0; k < 6; k++) {
                x.entry(code, k, six[k]);
            }
        });
    }

    private static void judged(String what, boolean isGood, int near, int same, int[] table, Checks.Steps entries) {
        String name = what + ", N " + near + ", S " + same;
        VcdiffForms x = Checks.made(entries);
        int made = x.make(2);
        Checks.due("14 " + name + ", make(2)", made < 0 ? made : 0, isGood ? 0 : -3);
        Checks.due("14 " + name + ", make(0)", x.make(0), 5);
        if (!isGood) {
            Checks.due("14 " + name + ", make(7)", x.make(7), -3);
        }
        Checks.Steps file = Checks.rowOf(Checks.tableHead(2, near, same, Checks.adds(table)));
        if (isGood) {
            Checks.opens("15 " + name, file, 0);
            Checks.due("19 " + name, Checks.tableBytes(Checks.then(file, y -> y.open()), false), table);
        } else {
            // Behind 5 bytes of head and 2 of the size.
            Checks.faults("15 fault 5, " + name, file, 5, 7);
            Checks.due("19 not taken, " + name, Checks.tableBytes(Checks.then(file, y -> y.open()), false), USUAL);
        }
    }

    private static void goodKinds() {
        for (int kind : new int[] {0, 1, 2, 3, 4, 5, 128, 255}) {
            good("KIND " + kind + " first", kind <= 3, 4, 3, 7, kind, 0, 0, 0, 0, 0);
            good("KIND " + kind + " second", kind <= 3, 4, 3, 7, 1, 6, 0, kind, 0, 0);
        }
    }

    private static void goodSizesAndModes() {
        for (int n : new int[] {0, 1, 255}) {
            good("nothing first, SIZE " + n, n == 0, 4, 3, 7, 0, n, 0, 1, 5, 0);
            good("nothing first, MODE " + n, n == 0, 4, 3, 7, 0, 0, n, 1, 5, 0);
            good("nothing second, SIZE " + n, n == 0, 4, 3, 7, 1, 5, 0, 0, n, 0);
            good("nothing second, MODE " + n, n == 0, 4, 3, 7, 1, 5, 0, 0, 0, n);
            for (int kind = 1; kind <= 2; kind++) {
                good("KIND " + kind + " first, MODE " + n, n == 0, 4, 3, 7, kind, 5, n, 0, 0, 0);
                good("KIND " + kind + " second, MODE " + n, n == 0, 4, 3, 7, 1, 5, 0, kind, 5, n);
            }
            for (int kind = 1; kind <= 3; kind++) {
                good("KIND " + kind + " first, SIZE " + n, true, 4, 3, 7, kind, n, 0, 0, 0, 0);
                good("KIND " + kind + " second, SIZE " + n, true, 4, 3, 7, 1, 5, 0, kind, n, 0);
            }
        }
    }

    private static void goodModesOfCopy() {
        int[][] numbers = {{4, 3}, {7, 0}, {0, 7}, {32, 16}, {32, 0}, {0, 16}, {5, 3}, {4, 4}};
        for (int[] one : numbers) {
            int modes = 2 + one[0] + one[1];
            for (int mode : new int[] {0, modes - 1, modes, 255}) {
                good("COPY first, MODE " + mode, mode < modes, one[0], one[1], 7, 3, 5, mode, 0, 0, 0);
                good("COPY second, MODE " + mode, mode < modes, one[0], one[1], 7, 1, 5, 0, 3, 5, mode);
            }
        }
        // The usual MODES 0 .. 8 need N + S of 7.
        int[][] fewer = {{3, 3}, {4, 2}, {0, 6}, {6, 0}, {0, 0}};
        for (int[] one : fewer) {
            good("the usual MODES", false, one[0], one[1], 7, 1, 6, 0, 0, 0, 0);
        }
        noModesOfCaches();
    }

    /** N 0, S 0: MODES 0 and 1 alone. */
    private static void noModesOfCaches() {
        for (int mode = 0; mode <= 2; mode++) {
            int most = mode;
            int[] table = USUAL.clone();
            for (int cell = 1024; cell < 1536; cell++) {
                table[cell] = Math.min(table[cell], most);
            }
            judged("all MODES up to " + mode, mode < 2, 0, 0, table, x -> {
                x.given(0, 0);
                for (int i = 0; i < 256; i++) {
                    if (table[1024 + i] != USUAL[1024 + i]) {
                        x.entry(i, 2, most);
                    }
                    if (table[1280 + i] != USUAL[1280 + i]) {
                        x.entry(i, 5, most);
                    }
                }
            });
        }
    }

    /** One wrong KIND is found in the first code, in the last one, and in those between. */
    private static void goodInEveryCode() {
        for (int code : new int[] {0, 1, 18, 19, 162, 163, 246, 247, 254, 255}) {
            int[] six = new int[6];
            for (int what = 0; what < 6; what++) {
                six[what] = USUAL[(what % 3 * 2 + what / 3) * 256 + code];
            }
            good("code " + code + " as it is", true, 4, 3, code, six);
            good("code " + code + " with a first KIND of 4", false, 4, 3, code, Checks.with(six, 0, 4));
            good("code " + code + " with a second KIND of 4", false, 4, 3, code, Checks.with(six, 3, 4));
        }
    }
}
