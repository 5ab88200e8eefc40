import java.util.ArrayList;
import java.util.Arrays;
import java.util.List;

/**
 * What the boundary tests have in common: checks, objects that are made by steps, bytes of files.
 *
 * <p>An object is good for 512 calls only. What takes more calls than that to be seen is seen of
 * several objects, each made by the same steps.
 */
final class Checks {
    /** Calls that bring a new object into a state. */
    interface Steps {
        void on(VcdiffForms x);
    }

    /** One call that answers. */
    interface Call {
        int on(VcdiffForms x);
    }

    static final Steps NEW = x -> { };
    static final int[] NONE = {};
    private static final int PIECE = 128;
    private static final int TOLD_MOST = 100;

    private static int wrong = 0;
    private static int checks = 0;

    private Checks() {
    }

    static void due(String what, long got, long want) {
        checks++;
        if (got != want) {
            tellWrong(what + ": answered " + got + ", due is " + want);
        }
    }

    static void due(String what, String got, String want) {
        checks++;
        if (!got.equals(want)) {
            tellWrong(what + ": got '" + got + "', due is '" + want + "'");
        }
    }

    static void due(String what, int[] got, int[] want) {
        checks++;
        if (!Arrays.equals(got, want)) {
            int at = Arrays.mismatch(got, want);
            tellWrong(what + ": " + got.length + " numbers, due are " + want.length + ", other from " + at + " on");
        }
    }

    private static void tellWrong(String text) {
        wrong++;
        if (wrong <= TOLD_MOST) {
            System.out.println(text);
        }
    }

    static void finish() {
        System.out.println(checks + " checks, " + wrong + " wrong");
        if (wrong != 0) {
            System.exit(1);
        }
    }

    // ---- Objects.

    static VcdiffForms made(Steps steps) {
        VcdiffForms x = new VcdiffForms();
        steps.on(x);
        return x;
    }

    static Steps then(Steps first, Steps next) {
        return x -> {
            first.on(x);
            next.on(x);
        };
    }

    /** All that can be seen has something in it: both rows, OLD, the given table, an open(). */
    static void busy(VcdiffForms x) {
        x.fill(700, 5, 2);
        x.old();
        x.given(5, 4);
        x.entry(17, 1, 200);
        x.entry(250, 2, 10);
        x.again(100, 200);
        x.again(300, 60);
        x.again(10, 9);
        x.fill(20, 9, 7);
        x.make(3);
        x.swap();
        x.open();
        x.given(6, 5);
        x.entry(18, 1, 201);
    }

    static void busyWithRow(VcdiffForms x, int n) {
        busy(x);
        x.cut(0);
        x.fill(n, 21, 1);
    }

    static void feed(VcdiffForms x, int... bytes) {
        long v = 0;
        for (int i = 0; i < bytes.length; i++) {
            v = v << 8 | bytes[i];
            if (i % 8 == 7) {
                x.feed(v, 8);
            } else if (i == bytes.length - 1) {
                x.feed(v, i % 8 + 1);
            }
        }
    }

    static Steps rowOf(int... bytes) {
        return x -> feed(x, bytes);
    }

    static Steps oldAndRow(int[] old, int[] row) {
        return x -> {
            feed(x, old);
            x.old();
            x.cut(0);
            feed(x, row);
        };
    }

    static Steps texts(String old, String row) {
        return oldAndRow(bytes(old), bytes(row));
    }

    /** Bytes as fill() is to bring them, reckoned without wrap-around. */
    static int[] filled(int n, int seed, int bits) {
        int[] bytes = new int[n];
        long z = seed & 0xFFFFFFFFL;
        for (int k = 0; k < n; k++) {
            z = (z * 1664525L + 1013904223L) % 4294967296L;
            bytes[k] = (int) (z / 16777216L) / (1 << bits);
        }
        return bytes;
    }

    // ---- What is seen of objects.

    static int[] outBytes(Steps steps) {
        List<Integer> all = new ArrayList<>();
        boolean more = true;
        while (more) {
            VcdiffForms x = made(steps);
            int begin = all.size();
            for (int i = begin; i < begin + PIECE && more; i++) {
                int b = x.out(i);
                more = b >= 0;
                if (more) {
                    all.add(b);
                }
            }
        }
        return ints(all);
    }

    static int[] rowBytes(Steps steps) {
        return outBytes(then(steps, x -> x.swap()));
    }

    static int[] oldBytes(Steps steps) {
        VcdiffForms x = made(steps);
        int least = 0;
        int most = 4001;
        while (most - least > 1) {
            int middle = (least + most) / 2;
            if (opensOld(x, middle)) {
                least = middle;
            } else {
                most = middle;
            }
        }
        int size = least;
        return outBytes(then(steps, y -> opensOld(y, size)));
    }

    /** Whether OLD has so many bytes; they have come out then. */
    private static boolean opensOld(VcdiffForms x, int size) {
        x.cut(0);
        feed(x, join(HEAD, size == 0
                ? window(1, 0, 0, 0, NONE, NONE, NONE)
                : window(1, size, 0, size, NONE, join(ints(19), big(size)), ints(0))));
        return x.open() >= 0;
    }

    static int[] tableBytes(Steps steps, boolean given) {
        int[] all = new int[1536];
        for (int begin = 0; begin < 1536; begin += PIECE) {
            VcdiffForms x = made(steps);
            int what = begin / 512 + begin / 256 % 2 * 3;
            for (int cell = begin; cell < begin + PIECE; cell++) {
                all[cell] = given ? x.entry(cell % 256, what, 0) : x.table(cell % 256, what);
            }
        }
        return all;
    }

    static int[] toldNumbers(Steps steps) {
        List<Integer> all = new ArrayList<>();
        VcdiffForms x = made(steps);
        all.add(x.size());
        all.add(x.differ());
        all.add(x.place());
        for (int what = 0; what < 10; what++) {
            all.add(x.told(what));
        }
        for (int i = 0; i < 33; i++) {
            all.add(x.cache(0, i));
        }
        x = made(steps);
        for (int i = 0; i < 40; i++) {
            for (int what = 0; what < 4; what++) {
                all.add(x.instruction(i, what));
            }
        }
        for (int begin = 0; begin <= 4096; begin += PIECE) {
            x = made(steps);
            for (int i = begin; i < begin + PIECE; i++) {
                all.add(x.cache(1, i));
            }
        }
        return ints(all);
    }

    /** N and S, if the given table is good. */
    static int[] givenNumbers(Steps steps) {
        VcdiffForms x = made(steps);
        x.cut(0);
        if (x.make(2) < 0) {
            return NONE;
        }
        int at = x.out(5) < 128 ? 6 : 7;
        return ints(x.out(at), x.out(at + 1));
    }

    // ---- Calls that are taken or refused.

    static void taken(String what, Steps steps, Call call, int answer) {
        due(what, call.on(made(steps)), answer);
    }

    /** The call is refused, and nothing that can be seen is another thing than without it. */
    static void refused(String what, Steps steps, Call call, int answer) {
        due(what, call.on(made(steps)), answer);
        leaves(what, steps, x -> call.on(x));
        due(what + ", what is told", toldNumbers(then(steps, x -> call.on(x))), toldNumbers(steps));
        due(what + ", the table", tableBytes(then(steps, x -> call.on(x)), false), tableBytes(steps, false));
    }

    /** As refused(), but for what is told of the latest open(). */
    static void leaves(String what, Steps steps, Steps call) {
        Steps after = then(steps, call);
        due(what + ", the row", rowBytes(after), rowBytes(steps));
        due(what + ", what came out", outBytes(after), outBytes(steps));
        due(what + ", OLD", oldBytes(after), oldBytes(steps));
        due(what + ", the given table", tableBytes(after, true), tableBytes(steps, true));
        due(what + ", its numbers", givenNumbers(after), givenNumbers(steps));
    }

    static void opens(String what, Steps steps, int size) {
        VcdiffForms x = made(steps);
        due(what + ", open()", x.open(), size);
        due(what + ", place()", x.place(), -1);
    }

    static void faults(String what, Steps steps, int fault, int place) {
        VcdiffForms x = made(steps);
        due(what + ", open()", x.open(), -10 - fault);
        due(what + ", place()", x.place(), place);
    }

    static void toldIs(String what, VcdiffForms x, int... want) {
        for (int k = 0; k < want.length; k++) {
            due(what + ", told(" + k + ")", x.told(k), want[k]);
        }
    }

    /** The instructions of the latest open(): A, R, C with sizes, addresses and modes. */
    static String instructions(VcdiffForms x) {
        StringBuilder told = new StringBuilder();
        for (int i = 0; i < 100 && x.instruction(i, 0) >= 0; i++) {
            told.append(i == 0 ? "" : " ");
            told.append("?ARC".charAt(x.instruction(i, 0))).append(x.instruction(i, 1));
            if (x.instruction(i, 0) == 3) {
                told.append('@').append(x.instruction(i, 2)).append('m').append(x.instruction(i, 3));
            }
        }
        return told.toString();
    }

    /** The instructions that make() finds. */
    static String found(Steps steps, int marks) {
        VcdiffForms x = made(steps);
        x.make(marks);
        x.swap();
        x.open();
        return instructions(x);
    }

    // ---- Bytes.

    static final int[] HEAD = {214, 195, 196, 0, 0};

    static int[] ints(int... bytes) {
        return bytes;
    }

    static int[] ints(List<Integer> bytes) {
        return bytes.stream().mapToInt(b -> b).toArray();
    }

    static int[] bytes(String text) {
        return text.chars().toArray();
    }

    static int[] times(int n, int b) {
        int[] all = new int[n];
        Arrays.fill(all, b);
        return all;
    }

    static int[] join(int[]... parts) {
        List<Integer> all = new ArrayList<>();
        for (int[] part : parts) {
            for (int b : part) {
                all.add(b);
            }
        }
        return ints(all);
    }

    static int[] with(int[] bytes, int i, int b) {
        int[] changed = bytes.clone();
        changed[i] = b;
        return changed;
    }

    static int[] head(int marks) {
        return ints(214, 195, 196, 0, marks);
    }

    /** A BIG number, as short as can be. */
    static int[] big(long v) {
        int n = 1;
        while (v >> 7 * n != 0) {
            n++;
        }
        return bigOf(v, n);
    }

    /** A BIG number of so many bytes. */
    static int[] bigOf(long v, int n) {
        int[] bytes = new int[n];
        for (int k = 0; k < n; k++) {
            bytes[k] = (int) (v >> 7 * (n - 1 - k)) & 127 | (k < n - 1 ? 128 : 0);
        }
        return bytes;
    }

    /** A window without a sum; size and place are of its segment, if the marks tell of one. */
    static int[] window(int marks, int size, int place, int target, int[] data, int[] codes, int[] addresses) {
        return summed(marks, size, place, target, NONE, data, codes, addresses);
    }

    /** A window without segment and sum. */
    static int[] plain(int target, int[] data, int[] codes, int[] addresses) {
        return window(0, 0, 0, target, data, codes, addresses);
    }

    static int[] summed(
            int marks, int size, int place, int target, int[] sum, int[] data, int[] codes, int[] addresses) {
        int[] segment = (marks & 3) == 0 ? NONE : join(big(size), big(place));
        int[] rest = join(big(target), ints(0), big(data.length), big(codes.length), big(addresses.length),
                sum, data, codes, addresses);
        return join(ints(marks), segment, big(rest.length), rest);
    }

    /** A head that gives a table, told by the file of it. */
    static int[] tableHead(int marks, int near, int same, int... file) {
        return join(head(marks), big(2 + file.length), ints(near, same), file);
    }

    /** A file that adds these bytes. */
    static int[] adds(int[] bytes) {
        return join(HEAD, plain(bytes.length, bytes, join(ints(1), big(bytes.length)), NONE));
    }

    /** The usual table AS BYTES, laid out by what the document says of each code. */
    static int[] usualBytes() {
        int[] t = new int[1536];
        int code = 0;
        lay(t, code++, 2, 0, 0, 0, 0, 0);
        for (int size = 0; size <= 17; size++) {
            lay(t, code++, 1, size, 0, 0, 0, 0);
        }
        for (int mode = 0; mode <= 8; mode++) {
            lay(t, code++, 3, 0, mode, 0, 0, 0);
            for (int size = 4; size <= 18; size++) {
                lay(t, code++, 3, size, mode, 0, 0, 0);
            }
        }
        for (int mode = 0; mode <= 5; mode++) {
            for (int add = 1; add <= 4; add++) {
                for (int size = 4; size <= 6; size++) {
                    lay(t, code++, 1, add, 0, 3, size, mode);
                }
            }
        }
        for (int mode = 6; mode <= 8; mode++) {
            for (int add = 1; add <= 4; add++) {
                lay(t, code++, 1, add, 0, 3, 4, mode);
            }
        }
        for (int mode = 0; mode <= 8; mode++) {
            lay(t, code++, 3, 4, mode, 1, 1, 0);
        }
        due("the test's own table has 256 codes", code, 256);
        return t;
    }

    /** One code's kind, size, mode of the first instruction and of the second one. */
    static void lay(int[] t, int code, int... six) {
        for (int what = 0; what < 6; what++) {
            t[(what % 3 * 2 + what / 3) * 256 + code] = six[what];
        }
    }

    static int[] sum(int[] bytes) {
        long a = 1;
        long b = 0;
        for (int one : bytes) {
            a = (a + one) % 65521;
            b = (b + a) % 65521;
        }
        return ints((int) (b >> 8), (int) b & 255, (int) (a >> 8), (int) a & 255);
    }
}
