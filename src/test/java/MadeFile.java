import java.util.ArrayList;
import java.util.Arrays;
import java.util.List;

/** A file that make() made, taken apart. */
final class MadeFile {
    static final class Window {
        int marks;
        int size;
        int place;
        int target;
        int[] sum = Checks.NONE;
        int[] data;
        int[] codes;
        int[] addresses;

        int[] again() {
            return Checks.summed(marks, size, place, target, sum, data, codes, addresses);
        }
    }

    final int[] bytes;
    final List<Window> windows = new ArrayList<>();
    int near = -1;
    int same = -1;
    int[] table = Checks.NONE;
    private int at = 5;

    private MadeFile(int[] bytes) {
        this.bytes = bytes;
    }

    static MadeFile of(Checks.Steps steps, int marks) {
        return read(Checks.outBytes(Checks.then(steps, x -> x.make(marks))));
    }

    static MadeFile read(int[] bytes) {
        MadeFile file = new MadeFile(bytes);
        if (bytes.length > 4 && bytes[4] == 2) {
            int end = file.big() + file.at;
            file.near = bytes[file.at];
            file.same = bytes[file.at + 1];
            file.at += 2;
            file.table = file.part(end - file.at);
        }
        while (file.at < bytes.length) {
            file.windows.add(file.window());
        }
        return file;
    }

    private int big() {
        int v = 0;
        int b = 128;
        while (b >= 128) {
            b = bytes[at++];
            v = v * 128 + b % 128;
        }
        return v;
    }

    private int[] part(int n) {
        int[] part = Arrays.copyOfRange(bytes, at, at + n);
        at += n;
        return part;
    }

    private Window window() {
        Window w = new Window();
        w.marks = bytes[at++];
        if ((w.marks & 3) != 0) {
            w.size = big();
            w.place = big();
        }
        big();
        w.target = big();
        at++;
        int data = big();
        int codes = big();
        int addresses = big();
        if ((w.marks & 4) != 0) {
            w.sum = part(4);
        }
        w.data = part(data);
        w.codes = part(codes);
        w.addresses = part(addresses);
        return w;
    }

    Window last() {
        return windows.get(windows.size() - 1);
    }

    /** The same file put together again, its numbers as short as can be. */
    int[] again() {
        int[] all = near < 0 ? Checks.HEAD : Checks.tableHead(2, near, same, table);
        for (Window w : windows) {
            all = Checks.join(all, w.again());
        }
        return all;
    }

    String targets() {
        StringBuilder told = new StringBuilder();
        for (Window w : windows) {
            told.append(told.length() == 0 ? "" : " ").append(w.target);
        }
        return told.toString();
    }

    /** Of each window the segment's kind, size and place. */
    String segments() {
        StringBuilder told = new StringBuilder();
        for (Window w : windows) {
            told.append(told.length() == 0 ? "" : " ").append((w.marks & 3) == 0 ? "none" : (w.marks & 3) + ":" + w.size + "@" + w.place);
        }
        return told.toString();
    }
}
