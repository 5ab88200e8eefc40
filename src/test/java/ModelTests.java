import java.util.ArrayList;
import java.util.Arrays;
import java.util.List;
import java.util.Random;

/**
 * Random runs of calls, each answered by VcdiffForms and by a model that was written from the
 * document on its own: lists, exceptions and searches over everything instead of rows and chains.
 */
public final class ModelTests {
    /** Behind these nothing is promised of an object. */
    private static final int CALLS_MOST = 512;
    private static int wrong = 0;
    private static int calls = 0;
    private static final int[] faultsSeen = new int[17];
    private static final int[] modesSeen = new int[64];
    private static int goodTables = 0;
    private static int untellable = 0;
    private static int tooLong = 0;

    public static void main(String[] args) {
        for (int seed = 1; seed <= 3000 && wrong < 20; seed++) {
            new Run(seed).go();
        }
        for (int fault = 1; fault <= 16; fault++) {
            if (faultsSeen[fault] < 5) {
                complain("the runs met fault " + fault + " only " + faultsSeen[fault] + " times");
            }
        }
        for (int mode = 0; mode < 9; mode++) {
            if (modesSeen[mode] < 5) {
                complain("the runs met mode " + mode + " only " + modesSeen[mode] + " times");
            }
        }
        if (goodTables < 50 || untellable < 5 || tooLong < 5) {
            complain("good tables " + goodTables + ", untellable " + untellable + ", too long " + tooLong);
        }
        System.out.println(calls + " calls compared with the model, " + wrong + " differ");
        if (wrong != 0) {
            System.exit(1);
        }
    }

    private static void complain(String text) {
        wrong++;
        System.out.println(text);
    }

    /** One object, one model, the same calls. */
    private static final class Run {
        private final int seed;
        private final Random random;
        private final VcdiffForms forms = new VcdiffForms();
        private final Model model = new Model();
        private final StringBuilder story = new StringBuilder();
        private int used = 0;

        Run(int seed) {
            this.seed = seed;
            this.random = new Random(seed);
        }

        private int pick(int... values) {
            return values[random.nextInt(values.length)];
        }

        private int compare(String call, int got, int want) {
            calls++;
            used++;
            story.append(' ').append(call).append('=').append(want);
            if (got != want) {
                String told = story.length() > 1500 ? ".. " + story.substring(story.length() - 1500) : story.toString();
                complain("seed " + seed + ": " + call + " answered " + got + ", the model " + want + " behind" + told);
            }
            return want;
        }

        void go() {
            switch (seed % 50 == 0 ? 5 : seed % 5) {
                case 5 -> longFile();
                case 0 -> anyCalls();
                case 1 -> makeAndSpoil(false);
                case 2 -> makeAndSpoil(true);
                case 3 -> handMade(false);
                default -> handMade(true);
            }
            finalLook();
            if (used > CALLS_MOST) {
                complain("seed " + seed + ": " + used + " calls of one object");
            }
        }

        /** What one round may take, and the final look, must still be there. */
        private boolean mayGoOn() {
            return used < CALLS_MOST - 190 && wrong < 20;
        }

        private void feed(long v, int n) {
            compare("feed(" + v + "," + n + ")", forms.feed(v, n), model.feed(v, n));
        }

        private void feedAll(List<Integer> bytes) {
            for (int i = 0; i < bytes.size(); ) {
                int n = Math.min(8, bytes.size() - i);
                long v = 0;
                for (int k = 0; k < n; k++) {
                    v = v << 8 | bytes.get(i + k);
                }
                feed(v, n);
                i += n;
            }
        }

        private void fill(int n, int from, int bits) {
            compare("fill(" + n + "," + from + "," + bits + ")", forms.fill(n, from, bits), model.fill(n, from, bits));
        }

        private void again(int first, int n) {
            compare("again(" + first + "," + n + ")", forms.again(first, n), model.again(first, n));
        }

        private void set(int i, int b) {
            compare("set(" + i + "," + b + ")", forms.set(i, b), model.set(i, b));
        }

        private void cut(int n) {
            compare("cut(" + n + ")", forms.cut(n), model.cut(n));
        }

        private void swap() {
            compare("swap()", forms.swap(), model.swap());
        }

        private void old() {
            compare("old()", forms.old(), model.old());
        }

        private void given(int near, int same) {
            compare("given(" + near + "," + same + ")", forms.given(near, same), model.given(near, same));
        }

        private void entry(int i, int what, int v) {
            compare("entry(" + i + "," + what + "," + v + ")", forms.entry(i, what, v), model.entry(i, what, v));
        }

        private int make(int marks) {
            int answer = compare("make(" + marks + ")", forms.make(marks), model.make(marks));
            if (answer == -3 && Model.isGood(model.given, model.givenNear, model.givenSame)) {
                untellable++;
            }
            if (answer == -4 && model.row.size() <= 6000) {
                tooLong++;
            }
            return answer;
        }

        private int open() {
            int answer = compare("open()", forms.open(), model.open());
            if (answer < -10) {
                faultsSeen[-10 - answer]++;
            }
            goodTables += model.counts[7];
            compare("place()", forms.place(), model.place);
            if (random.nextInt(3) == 0) {
                for (int what = 0; what < 10; what++) {
                    told(what);
                }
            } else {
                told(random.nextInt(10));
            }
            int n = Math.min(2000, model.log.size());
            lookAt(pick(0, n / 2, n - 1, n - 1, n, n - 2), random.nextInt(4));
            lookAt(n - 1, pick(2, 3));
            int near = random.nextInt(model.openNear + 1);
            compare("cache(0," + near + ")", forms.cache(0, near), model.cache(0, near));
            int same = model.log.isEmpty() ? random.nextInt(4097) : Math.max(0, model.log.get(n - 1)[2]);
            compare("cache(1," + same + ")", forms.cache(1, same), model.cache(1, same));
            return answer;
        }

        private void told(int what) {
            compare("told(" + what + ")", forms.told(what), model.told(what));
        }

        private void lookAt(int i, int what) {
            int seen = compare("instruction(" + i + "," + what + ")", forms.instruction(i, what), model.instruction(i, what));
            if (what == 3 && seen >= 0 && model.instruction(i, 0) == 3) {
                modesSeen[seen]++;
            }
        }

        /** A full look takes more calls than an object has, so samples are taken. */
        private void finalLook() {
            for (int k = 0; k < 10; k++) {
                int i = random.nextInt(256);
                int what = random.nextInt(6);
                compare("table(" + i + "," + what + ")", forms.table(i, what), model.table(i, what));
            }
            for (int k = 0; k < 20; k++) {
                int i = random.nextInt(Math.max(1, model.came.size() + 1));
                compare("out(" + i + ")", forms.out(i), model.out(i));
            }
            compare("differ()", forms.differ(), model.differ());
            compare("size()", forms.size(), model.row.size());
        }

        private int anyNumber() {
            switch (random.nextInt(8)) {
                case 0: return random.nextInt();
                case 1: return pick(Integer.MIN_VALUE, Integer.MAX_VALUE, -1, -2, Integer.MAX_VALUE - 7);
                case 2: return random.nextInt(9000);
                case 3: return random.nextInt(300);
                default: return random.nextInt(10);
            }
        }

        private void anyCalls() {
            while (mayGoOn()) {
                anyCall();
            }
        }

        private void anyCall() {
            switch (random.nextInt(20)) {
                case 0 -> feed(random.nextLong(), anyNumber());
                case 1 -> fill(anyNumber(), anyNumber(), pick(0, 3, 5, 7, 8, -1));
                case 2 -> again(anyNumber(), anyNumber());
                case 3 -> set(anyNumber(), anyNumber());
                case 4 -> cut(anyNumber());
                case 5 -> swap();
                case 6 -> old();
                case 7 -> given(anyNumber(), anyNumber());
                case 8 -> entry(anyNumber(), anyNumber(), anyNumber());
                case 9 -> make(anyNumber());
                case 10 -> open();
                case 11 -> feed(random.nextLong(), 8);
                case 12 -> again(0, Math.min(model.row.size(), 8000 - model.row.size()));
                case 13 -> make(random.nextInt(8));
                case 14 -> {
                    int i = anyNumber();
                    int what = anyNumber();
                    compare("table(" + i + "," + what + ")", forms.table(i, what), model.table(i, what));
                }
                case 15 -> {
                    int i = anyNumber();
                    int what = anyNumber();
                    lookAt(i, what);
                }
                case 16 -> {
                    int which = anyNumber();
                    int i = anyNumber();
                    compare("cache(" + which + "," + i + ")", forms.cache(which, i), model.cache(which, i));
                }
                case 17 -> {
                    told(anyNumber());
                }
                case 18 -> {
                    int i = anyNumber();
                    compare("out(" + i + ")", forms.out(i), model.out(i));
                }
                default -> compare("differ()", forms.differ(), model.differ());
            }
        }

        private void anyRow(int most) {
            feed(0, 0);
            for (int k = 0; k < 12; k++) {
                int size = model.row.size();
                int rest = Math.max(0, most - size);
                switch (random.nextInt(6)) {
                    case 0 -> fill(Math.min(rest, random.nextInt(900)), random.nextInt(), random.nextInt(8));
                    case 1 -> fill(Math.min(rest, random.nextInt(60)), random.nextInt(), random.nextInt(8));
                    case 2, 3 -> {
                        int first = random.nextInt(size + 1);
                        again(first, Math.min(rest, random.nextInt(size - first + 1)));
                    }
                    case 4 -> feed(random.nextInt(256) * 0x0101010101010101L, Math.min(rest, 8));
                    default -> {
                        if (size > 0) {
                            set(random.nextInt(size), random.nextInt(256));
                        }
                    }
                }
            }
        }

        /** The given table: any edits, most of which keep it good. */
        private void anyTable() {
            int near = pick(4, 4, 4, 5, 8, 32, 0, 1, 3);
            int same = pick(3, 3, 3, 4, 16, 0, 2);
            given(near, same);
            int modes = 2 + near + same;
            if (random.nextInt(10) != 0) {
                for (int code = 0; code < 256; code++) {
                    if (Model.usual()[1024 + code] >= modes) {
                        entry(code, 2, random.nextInt(modes));
                    }
                    if (Model.usual()[1280 + code] >= modes) {
                        entry(code, 5, random.nextInt(modes));
                    }
                }
            }
            int edits = random.nextInt(25);
            for (int k = 0; k < edits; k++) {
                anyEdit(random.nextInt(256), modes);
            }
            if (random.nextInt(6) == 0) {
                entry(random.nextInt(256), random.nextInt(6), random.nextInt(256));
            }
        }

        private void anyEdit(int code, int modes) {
            int half = pick(0, 0, 3);
            int kind = random.nextInt(4);
            entry(code, half, kind);
            entry(code, half + 1, kind == 0 ? 0 : pick(0, 1, 2, 4, 5, 6, 19, 20, 33, 255, random.nextInt(256)));
            entry(code, half + 2, kind == 3 ? random.nextInt(modes) : 0);
        }

        private void makeAndSpoil(boolean byGiven) {
            if (random.nextInt(3) != 0) {
                anyRow(random.nextInt(4100));
                old();
            }
            if (byGiven) {
                anyTable();
            }
            anyRow(random.nextInt(3) == 0 ? 6000 : 3000);
            if (byGiven && random.nextInt(8) == 0) {
                feed(0, 0);
                fill(6000, random.nextInt(), 0);
            }
            int marks = random.nextInt(8) & (byGiven ? 7 : 5) | (byGiven && random.nextInt(5) != 0 ? 2 : 0);
            if (make(marks) < 0) {
                return;
            }
            swap();
            open();
            compare("differ()", forms.differ(), model.differ());
            while (mayGoOn()) {
                spoilAndOpen();
            }
        }

        private void spoilAndOpen() {
            int size = model.row.size();
            if (size == 0) {
                feed(0, 8);
                return;
            }
            int i = random.nextInt(3) == 0 ? random.nextInt(Math.min(size, 30)) : random.nextInt(size);
            int b = pick(0, 1, 2, 3, 4, 127, 128, 255, random.nextInt(256));
            int was = model.row.get(i);
            if (random.nextInt(6) == 0) {
                b = (was + pick(1, -1) + 256) % 256;
            }
            set(i, b);
            open();
            if (random.nextInt(12) != 0) {
                set(i, was);
            }
            if (random.nextInt(25) == 0) {
                cut(random.nextInt(size));
                open();
            }
            if (random.nextInt(40) == 0) {
                feed(random.nextLong(), random.nextInt(8) + 1);
                open();
            }
        }

        private void handMade(boolean byGiven) {
            fill(random.nextInt(60), random.nextInt(), random.nextInt(8));
            old();
            if (byGiven) {
                anyTable();
                feed(0, 0);
                if (make(2) < 0) {
                    return;
                }
            }
            while (mayGoOn()) {
                feed(0, 0);
                if (byGiven) {
                    // A file of no windows: the head with the table, for windows to come behind.
                    make(2);
                    swap();
                } else {
                    feedAll(List.of(214, 195, 196, 0, 0));
                }
                Hand hand = new Hand(random, model, byGiven);
                int windows = 1 + random.nextInt(3);
                for (int k = 0; k < windows; k++) {
                    feedAll(hand.window());
                }
                open();
            }
        }

        /** Many small copies and adds by a table that has no short codes for them: a long file. */
        private void longFile() {
            fill(4000, random.nextInt(), 0);
            old();
            List<Integer> pieces = new ArrayList<>();
            int first = random.nextInt(3600);
            while (pieces.size() < 2048) {
                // Far from the latest four, so that addresses take two bytes.
                first = 200 + (first + 777) % 3600;
                for (int k = 0; k < 4; k++) {
                    pieces.add(model.old.get(first + k));
                }
                pieces.add(model.old.get(first + 4) ^ 1);
            }
            given(4, 3);
            entry(2, 1, 0);
            for (int mode = 0; mode < 9; mode++) {
                entry(20 + 16 * mode, 1, 0);
                entry(mode < 6 ? 163 + 12 * mode : 235 + 4 * (mode - 6), 4, 99);
                entry(247 + mode, 4, 99);
            }
            if (random.nextBoolean()) {
                entry(0, 0, 1);
            }
            feed(0, 0);
            feedAll(pieces.subList(0, 2048));
            again(0, 2048);
            again(0, 1500 + random.nextInt(390));
            make(2);
            feed(0x5A5A5A5A5A5A5A5AL, 8);
            make(2);
            make(3);
            make(0);
        }
    }

    /** Windows told by hand: any codes, sizes and addresses, most of them right. */
    private static final class Hand {
        private final Random random;
        private final Model model;
        private final int[] table;
        private final int near;
        private final int same;
        private int came = 0;

        Hand(Random random, Model model, boolean byGiven) {
            this.random = random;
            this.model = model;
            table = byGiven ? model.given : Model.usual();
            near = byGiven ? model.givenNear : 4;
            same = byGiven ? model.givenSame : 3;
        }

        private boolean seldom() {
            return random.nextInt(60) == 0;
        }

        private void longBig(List<Integer> to, long v) {
            List<Integer> digits = new ArrayList<>(Model.big(v));
            while (digits.size() < 5 && random.nextInt(8) == 0) {
                digits.add(0, 128);
            }
            if (random.nextInt(400) == 0) {
                digits = List.of(255, 255, 255, 255, 127);
            }
            if (random.nextInt(400) == 0) {
                digits = List.of(128, 128, 128, 128, 128, 1);
            }
            to.addAll(digits);
        }

        List<Integer> window() {
            List<Integer> all = new ArrayList<>();
            int marks = seldom() ? random.nextInt(256) : random.nextInt(3) | (random.nextInt(9) == 0 ? 4 : 0);
            all.add(marks);
            int segment = 0;
            if ((marks & 3) != 0) {
                int whole = (marks & 1) != 0 ? model.old.size() : came;
                segment = random.nextInt(whole + 1);
                int place = random.nextInt(whole - segment + 1) + (seldom() ? 1 : 0);
                longBig(all, segment);
                longBig(all, place);
            }
            List<Integer> data = new ArrayList<>();
            List<Integer> codes = new ArrayList<>();
            List<Integer> addresses = new ArrayList<>();
            int target = 0;
            int n = random.nextInt(12);
            for (int k = 0; k < n; k++) {
                int code = random.nextInt(3) == 0 ? random.nextInt(256) : random.nextInt(19) + random.nextInt(2) * 147;
                codes.add(code);
                target += half(code, 0, segment + target, data, codes, addresses);
                target += half(code, 256, segment + target, data, codes, addresses);
            }
            came += target;
            spoilParts(data, codes, addresses);
            finish(all, target + (seldom() ? random.nextInt(5) - 2 : 0), marks, data, codes, addresses);
            return all;
        }

        private void spoilParts(List<Integer> data, List<Integer> codes, List<Integer> addresses) {
            if (seldom()) {
                data.add(7);
            }
            if (seldom() && !data.isEmpty()) {
                data.remove(data.size() - 1);
            }
            if (seldom()) {
                addresses.add(7);
            }
            if (seldom() && !addresses.isEmpty()) {
                addresses.remove(addresses.size() - 1);
            }
            if (seldom() && !codes.isEmpty()) {
                codes.remove(codes.size() - 1);
            }
        }

        private int half(int code, int half, int here, List<Integer> data, List<Integer> codes, List<Integer> addresses) {
            int kind = table[half + code];
            int size = table[512 + half + code];
            int mode = table[1024 + half + code];
            if (kind == 0) {
                return 0;
            }
            if (size == 0) {
                size = random.nextInt(3) == 0 ? 0 : random.nextInt(30);
                longBig(codes, size);
            }
            if (kind == 3) {
                address(mode, here, addresses);
            } else {
                for (int k = 0; k < (kind == 1 ? size : 1); k++) {
                    data.add(random.nextInt(256));
                }
            }
            return size;
        }

        private void address(int mode, int here, List<Integer> addresses) {
            if (mode == 0) {
                longBig(addresses, here == 0 ? 0 : random.nextInt(here));
            } else if (mode == 1) {
                longBig(addresses, here == 0 ? 1 : 1 + random.nextInt(here) + (random.nextInt(99) == 0 ? here : 0));
            } else if (mode < 2 + near) {
                longBig(addresses, random.nextInt(3));
            } else {
                addresses.add(random.nextInt(Math.min(256, Math.max(here, 1))));
            }
        }

        private void finish(List<Integer> all, int target, int marks, List<Integer> data, List<Integer> codes, List<Integer> addresses) {
            List<Integer> body = new ArrayList<>();
            longBig(body, Math.max(0, target) + (random.nextInt(200) == 0 ? 7990 : 0));
            body.add(seldom() ? 1 : 0);
            longBig(body, data.size());
            longBig(body, codes.size());
            longBig(body, addresses.size());
            if ((marks & 4) != 0) {
                // The sum of no byte is right now and then; makeAndSpoil has the other right ones.
                body.addAll(List.of(0, 0, 0, 1));
            }
            body.addAll(data);
            body.addAll(codes);
            body.addAll(addresses);
            longBig(all, body.size() + (seldom() ? 1 : 0));
            all.addAll(body);
        }
    }

    /** The document, once more. */
    private static final class Model {
        private static final class Fault extends RuntimeException {
            private static final long serialVersionUID = 1L;
            final int which;
            final int place;

            Fault(int which, int place) {
                super(null, null, false, false);
                this.which = which;
                this.place = place;
            }
        }

        private static final class CantTell extends RuntimeException {
            private static final long serialVersionUID = 1L;
        }

        List<Integer> row = new ArrayList<>();
        List<Integer> came = new ArrayList<>();
        List<Integer> old = new ArrayList<>();
        int[] given = usual();
        int givenNear = 4;
        int givenSame = 3;
        int place = -1;
        int[] counts = new int[8];
        int[] opened = usual();
        int openNear = 4;
        int openSame = 3;
        int[] nearHeld = new int[4];
        int[] sameHeld = new int[768];
        List<int[]> log = new ArrayList<>();

        static int[] usual() {
            List<int[]> all = new ArrayList<>();
            all.add(new int[] {2, 0, 0, 0, 0, 0});
            for (int size = 0; size < 18; size++) {
                all.add(new int[] {1, 0, size, 0, 0, 0});
            }
            for (int mode = 0; mode < 9; mode++) {
                all.add(new int[] {3, 0, 0, 0, mode, 0});
                for (int size = 4; size < 19; size++) {
                    all.add(new int[] {3, 0, size, 0, mode, 0});
                }
            }
            for (int mode = 0; mode < 6; mode++) {
                for (int add = 1; add < 5; add++) {
                    for (int size = 4; size < 7; size++) {
                        all.add(new int[] {1, 3, add, size, 0, mode});
                    }
                }
            }
            for (int mode = 6; mode < 9; mode++) {
                for (int add = 1; add < 5; add++) {
                    all.add(new int[] {1, 3, add, 4, 0, mode});
                }
            }
            for (int mode = 0; mode < 9; mode++) {
                all.add(new int[] {3, 1, 4, 1, mode, 0});
            }
            int[] bytes = new int[1536];
            for (int code = 0; code < 256; code++) {
                for (int k = 0; k < 6; k++) {
                    bytes[256 * k + code] = all.get(code)[k];
                }
            }
            return bytes;
        }

        static boolean isGood(int[] t, int n, int s) {
            for (int k = 0; k < 512; k++) {
                int kind = t[k];
                int size = t[512 + k];
                int mode = t[1024 + k];
                boolean good = kind == 0 && size == 0 && mode == 0
                        || (kind == 1 || kind == 2) && mode == 0
                        || kind == 3 && mode < 2 + n + s;
                if (!good) {
                    return false;
                }
            }
            return true;
        }

        static List<Integer> big(long v) {
            List<Integer> digits = new ArrayList<>();
            digits.add((int) (v % 128));
            for (long rest = v / 128; rest > 0; rest /= 128) {
                digits.add(0, (int) (rest % 128) + 128);
            }
            return digits;
        }

        static long adler(List<Integer> bytes) {
            long a = 1;
            long b = 0;
            for (int x : bytes) {
                a = (a + x) % 65521;
                b = (b + a) % 65521;
            }
            return 65536 * b + a;
        }

        int feed(long v, int n) {
            if (n < 0 || n > 8) {
                return -2;
            }
            if (n == 0) {
                row.clear();
                return 0;
            }
            if ((long) row.size() + n > 8000) {
                return -4;
            }
            for (int k = n - 1; k >= 0; k--) {
                row.add((int) (v >> 8 * k & 255));
            }
            return row.size();
        }

        int fill(int n, int seed, int bits) {
            if (n < 0 || bits < 0 || bits > 7) {
                return -2;
            }
            if ((long) row.size() + n > 8000) {
                return -4;
            }
            int z = seed;
            for (int k = 0; k < n; k++) {
                z = z * 1664525 + 1013904223;
                row.add(z >>> 24 + bits);
            }
            return row.size();
        }

        int again(int first, int n) {
            if (first < 0 || n < 0 || (long) first + n > row.size()) {
                return -2;
            }
            if ((long) row.size() + n > 8000) {
                return -4;
            }
            row.addAll(new ArrayList<>(row.subList(first, first + n)));
            return row.size();
        }

        int set(int i, int b) {
            if (i < 0 || i >= row.size() || b < 0 || b > 255) {
                return -2;
            }
            return row.set(i, b);
        }

        int cut(int n) {
            if (n < 0 || n > row.size()) {
                return -2;
            }
            int had = row.size();
            row = new ArrayList<>(row.subList(0, n));
            return had;
        }

        int swap() {
            List<Integer> kept = row;
            row = came;
            came = kept;
            return row.size();
        }

        int differ() {
            int i = 0;
            while (i < row.size() && i < came.size() && row.get(i).equals(came.get(i))) {
                i++;
            }
            return i == row.size() && i == came.size() ? -3 : i;
        }

        int out(int i) {
            return i < 0 || i >= came.size() ? -2 : came.get(i);
        }

        int old() {
            if (row.size() > 4000) {
                return -4;
            }
            old = new ArrayList<>(row);
            return old.size();
        }

        int given(int near, int same) {
            if (near < 0 || near > 32 || same < 0 || same > 16) {
                return -2;
            }
            given = usual();
            givenNear = near;
            givenSame = same;
            return 256;
        }

        private static int cell(int i, int what) {
            int[] blocks = {0, 2, 4, 1, 3, 5};
            return 256 * blocks[what] + i;
        }

        int entry(int i, int what, int v) {
            if (i < 0 || i > 255 || what < 0 || what > 5 || v < 0 || v > 255) {
                return -2;
            }
            int was = given[cell(i, what)];
            given[cell(i, what)] = v;
            return was;
        }

        int table(int i, int what) {
            return i < 0 || i > 255 || what < 0 || what > 5 ? -2 : opened[cell(i, what)];
        }

        int told(int what) {
            if (what < 0 || what > 9) {
                return -2;
            }
            return what == 8 ? openNear : what == 9 ? openSame : counts[what];
        }

        int instruction(int i, int what) {
            if (i < 0 || i >= Math.min(2000, log.size()) || what < 0 || what > 3) {
                return -2;
            }
            return log.get(i)[what];
        }

        int cache(int which, int i) {
            int[] held = which == 0 ? nearHeld : which == 1 ? sameHeld : new int[0];
            return i < 0 || i >= held.length ? -2 : held[i];
        }

        int make(int marks) {
            if (marks < 0 || marks > 7) {
                return -2;
            }
            boolean byGiven = (marks & 2) != 0;
            if (byGiven && !isGood(given, givenNear, givenSame)) {
                return -3;
            }
            if (row.size() > 6000) {
                return -4;
            }
            List<Integer> made = new ArrayList<>(List.of(214, 195, 196, 0, byGiven ? 2 : 0));
            if (byGiven) {
                List<Integer> inner = new ArrayList<>(List.of(214, 195, 196, 0, 0));
                inner.addAll(windows(asList(given), asList(usual()), usual(), 4, 3, 0));
                made.addAll(big(inner.size() + 2));
                made.add(givenNear);
                made.add(givenSame);
                made.addAll(inner);
            }
            try {
                made.addAll(byGiven
                        ? windows(row, old, given, givenNear, givenSame, marks)
                        : windows(row, old, usual(), 4, 3, marks));
            } catch (CantTell e) {
                return -3;
            }
            if (made.size() > 8000) {
                return -4;
            }
            came = made;
            return came.size();
        }

        private static List<Integer> asList(int[] bytes) {
            List<Integer> all = new ArrayList<>();
            for (int b : bytes) {
                all.add(b);
            }
            return all;
        }

        private static List<Integer> windows(List<Integer> from, List<Integer> old, int[] t, int n, int s, int marks) {
            List<Integer> made = new ArrayList<>();
            for (int begin = 0; begin < from.size(); begin += 2048) {
                List<Integer> target = from.subList(begin, Math.min(from.size(), begin + 2048));
                int mark = (marks & 1) != 0 ? 4 : 0;
                List<Integer> segment = List.of();
                int segmentPlace = 0;
                if (!old.isEmpty()) {
                    mark += 1;
                    segment = old;
                } else if ((marks & 4) != 0 && begin > 0) {
                    mark += 2;
                    segmentPlace = begin - 2048;
                    segment = from.subList(segmentPlace, begin);
                }
                made.add(mark);
                if ((mark & 3) != 0) {
                    made.addAll(big(segment.size()));
                    made.addAll(big(segmentPlace));
                }
                List<Integer> body = body(segment, target, t, n, s, (mark & 4) != 0);
                made.addAll(big(body.size()));
                made.addAll(body);
            }
            return made;
        }

        private static List<Integer> body(List<Integer> segment, List<Integer> target, int[] t, int n, int s, boolean summed) {
            List<Integer> data = new ArrayList<>();
            List<Integer> addresses = new ArrayList<>();
            List<int[]> found = find(segment, target, n, s, data, addresses);
            List<Integer> codes = codes(found, t);
            List<Integer> body = new ArrayList<>(big(target.size()));
            body.add(0);
            body.addAll(big(data.size()));
            body.addAll(big(codes.size()));
            body.addAll(big(addresses.size()));
            if (summed) {
                long sum = adler(target);
                for (int shift = 24; shift >= 0; shift -= 8) {
                    body.add((int) (sum >> shift & 255));
                }
            }
            body.addAll(data);
            body.addAll(codes);
            body.addAll(addresses);
            return body;
        }

        private static List<int[]> find(List<Integer> segment, List<Integer> target, int n, int s, List<Integer> data, List<Integer> addresses) {
            int[] space = new int[segment.size() + target.size()];
            int end = 0;
            for (int b : segment) {
                space[end++] = b;
            }
            for (int b : target) {
                space[end++] = b;
            }
            int[] near = new int[n];
            int[] same = new int[256 * s];
            int copies = 0;
            List<int[]> found = new ArrayList<>();
            int p = segment.size();
            while (p < end) {
                int copy = 0;
                int at = -1;
                int seen = 0;
                for (int q = p - 1; q >= 0 && seen < 16 && p + 4 <= end; q--) {
                    if (!Arrays.equals(space, q, q + 4, space, p, p + 4)) {
                        continue;
                    }
                    seen++;
                    int k = 4;
                    while (p + k < end && space[q + k] == space[p + k]) {
                        k++;
                    }
                    if (k > copy) {
                        copy = k;
                        at = q;
                    }
                }
                int run = 1;
                while (p + run < end && space[p + run] == space[p]) {
                    run++;
                }
                if (run >= 4 && run >= copy) {
                    found.add(new int[] {2, run, 0});
                    data.add(space[p]);
                    p += run;
                } else if (copy > 0) {
                    found.add(new int[] {3, copy, bestMode(at, p, near, same, addresses)});
                    if (n > 0) {
                        near[copies % n] = at;
                    }
                    if (s > 0) {
                        same[at % (256 * s)] = at;
                    }
                    copies++;
                    p += copy;
                } else {
                    int[] last = found.isEmpty() ? null : found.get(found.size() - 1);
                    if (last != null && last[0] == 1 && last[1] < 255) {
                        last[1]++;
                    } else {
                        found.add(new int[] {1, 1, 0});
                    }
                    data.add(space[p]);
                    p++;
                }
            }
            return found;
        }

        private static int bestMode(int at, int here, int[] near, int[] same, List<Integer> addresses) {
            List<List<Integer>> ways = new ArrayList<>();
            ways.add(big(at));
            ways.add(big(here - at));
            for (int from : near) {
                ways.add(from <= at ? big(at - from) : null);
            }
            for (int k = 0; k < same.length; k += 256) {
                List<Integer> way = null;
                for (int b = 0; b < 256 && way == null; b++) {
                    way = same[k + b] == at ? List.of(b) : null;
                }
                ways.add(way);
            }
            int best = 0;
            for (int mode = 1; mode < ways.size(); mode++) {
                if (ways.get(mode) != null && ways.get(mode).size() < ways.get(best).size()) {
                    best = mode;
                }
            }
            addresses.addAll(ways.get(best));
            return best;
        }

        private static List<Integer> codes(List<int[]> found, int[] t) {
            List<Integer> codes = new ArrayList<>();
            int i = 0;
            while (i < found.size()) {
                int[] one = found.get(i);
                int[] two = i + 1 < found.size() ? found.get(i + 1) : null;
                int pair = two == null ? -1 : least(t, one[0], one[1], one[2], two);
                int[] nothing = {0, 0, 0};
                int alone = least(t, one[0], one[1], one[2], nothing);
                int open = least(t, one[0], 0, one[2], nothing);
                if (pair >= 0) {
                    codes.add(pair);
                    i++;
                } else if (alone >= 0) {
                    codes.add(alone);
                } else if (open >= 0) {
                    codes.add(open);
                    codes.addAll(big(one[1]));
                } else {
                    throw new CantTell();
                }
                i++;
            }
            return codes;
        }

        private static int least(int[] t, int kind, int size, int mode, int[] two) {
            for (int c = 0; c < 256; c++) {
                if (t[c] == kind && t[512 + c] == size && t[1024 + c] == mode
                        && t[256 + c] == two[0] && t[768 + c] == two[1] && t[1280 + c] == two[2]) {
                    return c;
                }
            }
            return -1;
        }

        int open() {
            counts = new int[8];
            opened = usual();
            openNear = 4;
            openSame = 3;
            nearHeld = new int[4];
            sameHeld = new int[768];
            log = new ArrayList<>();
            place = -1;
            try {
                came = new Reader(row, 0, row.size(), old, this).file();
                return came.size();
            } catch (Fault fault) {
                place = fault.place;
                return -10 - fault.which;
            }
        }
    }

    /** Opens a file; tells the model of it, if there is one (none: a file given as table). */
    private static final class Reader {
        private final List<Integer> row;
        private final int end;
        private final List<Integer> old;
        private final Model model;
        private final int start;
        private int at;
        private int[] table = Model.usual();
        private int near = 4;
        private int same = 3;
        private final List<Integer> came = new ArrayList<>();

        Reader(List<Integer> row, int start, int end, List<Integer> old, Model model) {
            this.row = row;
            this.start = start;
            this.at = start;
            this.end = end;
            this.old = old;
            this.model = model;
        }

        private int one() {
            if (at >= end) {
                throw new Model.Fault(1, end);
            }
            return row.get(at++);
        }

        private long number() {
            int first = at;
            long v = 0;
            for (int k = 1; ; k++) {
                int b = one();
                v = v * 128 + b % 128;
                if (b < 128) {
                    break;
                }
                if (k == 5) {
                    throw new Model.Fault(3, first);
                }
            }
            if (v > 0xFFFFFFFFL) {
                throw new Model.Fault(3, first);
            }
            return v;
        }

        private void need(long n) {
            if (at + n > end) {
                throw new Model.Fault(1, end);
            }
        }

        List<Integer> file() {
            need(4);
            boolean right = one() == 214 & one() == 195 & one() == 196 & one() == 0;
            if (!right) {
                throw new Model.Fault(2, start);
            }
            int head = one();
            if (head != 0 && head != 4 && (model == null || head != 2 && head != 6)) {
                throw new Model.Fault(4, start + 4);
            }
            if ((head & 2) != 0) {
                giveTable();
            }
            if ((head & 4) != 0) {
                long n = number();
                need(n);
                at += (int) n;
                if (model != null) {
                    model.counts[6] = (int) n;
                }
            }
            while (at < end) {
                window();
            }
            return came;
        }

        private void giveTable() {
            long n = number();
            need(n);
            int first = at;
            Model.Fault bad = new Model.Fault(5, first);
            if (n < 2 || row.get(first) > 32 || row.get(first + 1) > 16) {
                throw bad;
            }
            List<Integer> made;
            try {
                made = new Reader(row, first + 2, first + (int) n, Model.asList(Model.usual()), null).file();
            } catch (Model.Fault any) {
                throw bad;
            }
            int[] bytes = made.stream().mapToInt(x -> x).toArray();
            if (bytes.length != 1536 || !Model.isGood(bytes, row.get(first), row.get(first + 1))) {
                throw bad;
            }
            near = row.get(first);
            same = row.get(first + 1);
            table = bytes;
            at = first + (int) n;
            model.opened = bytes;
            model.openNear = near;
            model.openSame = same;
            model.nearHeld = new int[near];
            model.sameHeld = new int[256 * same];
            model.counts[7] = 1;
        }

        private void window() {
            int first = at;
            int mark = one();
            if (mark >= 8 || mark % 4 == 3) {
                throw new Model.Fault(6, first);
            }
            if (model != null) {
                model.counts[0]++;
            }
            List<Integer> segment = List.of();
            if (mark % 4 != 0) {
                int sizeAt = at;
                long size = number();
                long place = number();
                List<Integer> whole = mark % 4 == 1 ? old : came;
                if (size + place > whole.size()) {
                    throw new Model.Fault(7, sizeAt);
                }
                segment = whole.subList((int) place, (int) (place + size));
            }
            int lengthAt = at;
            long length = number();
            int from = at;
            long target = number();
            if (came.size() + target > 8000) {
                throw new Model.Fault(10, from);
            }
            int zeroAt = at;
            if (one() != 0) {
                throw new Model.Fault(9, zeroAt);
            }
            long data = number();
            long codes = number();
            long addresses = number();
            int sumAt = at;
            long sum = -1;
            if (mark >= 4) {
                need(4);
                sum = ((one() * 256L + one()) * 256 + one()) * 256 + one();
            }
            if (length != at - from + data + codes + addresses) {
                throw new Model.Fault(8, lengthAt);
            }
            need(data + codes + addresses);
            int[] edges = {at, at + (int) data, at + (int) (data + codes), at + (int) (data + codes + addresses)};
            List<Integer> space = new ArrayList<>(segment);
            new Player(this, space, (int) target, edges).play();
            List<Integer> fresh = space.subList(segment.size(), space.size());
            if (mark >= 4 && Model.adler(fresh) != sum) {
                throw new Model.Fault(16, sumAt);
            }
            came.addAll(fresh);
            at = edges[3];
        }
    }

    /** The instructions of one window. */
    private static final class Player {
        private final Reader reader;
        private final List<Integer> space;
        private final int full;
        private final int[] at = new int[3];
        private final int[] ends = new int[3];
        private final int[] near;
        private final int[] same;
        private int next = 0;
        private int code;
        private int codeAt;

        Player(Reader reader, List<Integer> space, int target, int[] edges) {
            this.reader = reader;
            this.space = space;
            this.full = space.size() + target;
            for (int k = 0; k < 3; k++) {
                at[k] = edges[k];
                ends[k] = edges[k + 1];
            }
            near = new int[reader.near];
            same = new int[256 * reader.same];
        }

        private int take(int part, int fault) {
            if (at[part] == ends[part]) {
                throw new Model.Fault(fault, codeAt);
            }
            return reader.row.get(at[part]++);
        }

        private long takeNumber(int part, int fault) {
            long v = 0;
            for (int k = 0; k < 5; k++) {
                int b = take(part, fault);
                v = 128 * v + b % 128;
                if (b < 128 && v <= 0xFFFFFFFFL) {
                    return v;
                }
                if (b < 128) {
                    break;
                }
            }
            throw new Model.Fault(fault, codeAt);
        }

        void play() {
            holdCaches();
            while (at[1] < ends[1]) {
                codeAt = at[1];
                code = take(1, 11);
                if (reader.model != null && reader.table[code] > 0 && reader.table[256 + code] > 0) {
                    reader.model.counts[4]++;
                }
                one(0);
                one(256);
            }
            if (space.size() != full || at[0] != ends[0] || at[2] != ends[2]) {
                throw new Model.Fault(15, ends[1]);
            }
        }

        private void one(int half) {
            int kind = reader.table[half + code];
            int mode = reader.table[1024 + half + code];
            if (kind == 0) {
                return;
            }
            long size = reader.table[512 + half + code];
            if (size == 0) {
                size = takeNumber(1, 11);
            }
            if (space.size() + size > full) {
                throw new Model.Fault(13, codeAt);
            }
            long address = -1;
            if (kind == 1) {
                if (size > ends[0] - at[0]) {
                    throw new Model.Fault(12, codeAt);
                }
                for (int k = 0; k < size; k++) {
                    space.add(take(0, 12));
                }
            } else if (kind == 2) {
                int b = take(0, 12);
                for (int k = 0; k < size; k++) {
                    space.add(b);
                }
            } else {
                address = copy((int) size, mode);
            }
            through(kind, (int) size, (int) address, mode);
        }

        private long copy(int size, int mode) {
            long address;
            if (mode == 0) {
                address = takeNumber(2, 14);
            } else if (mode == 1) {
                address = space.size() - takeNumber(2, 14);
            } else if (mode < 2 + near.length) {
                address = near[mode - 2] + takeNumber(2, 14);
            } else {
                address = same[256 * (mode - 2 - near.length) + take(2, 14)];
            }
            if (address < 0 || address >= space.size()) {
                throw new Model.Fault(14, codeAt);
            }
            for (int k = 0; k < size; k++) {
                space.add(space.get((int) address + k));
            }
            if (near.length > 0) {
                near[next] = (int) address;
                next = (next + 1) % near.length;
            }
            if (same.length > 0) {
                same[(int) address % same.length] = (int) address;
            }
            return address;
        }

        private void through(int kind, int size, int address, int mode) {
            Model model = reader.model;
            if (model == null) {
                return;
            }
            model.counts[kind]++;
            model.counts[5] += size;
            if (model.log.size() < 2000) {
                model.log.add(new int[] {kind, size, address, mode});
            }
            holdCaches();
        }

        private void holdCaches() {
            if (reader.model != null) {
                reader.model.nearHeld = near.clone();
                reader.model.sameHeld = same.clone();
            }
        }
    }
}
