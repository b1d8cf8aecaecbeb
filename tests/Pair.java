import java.util.ArrayList;
import java.util.List;

/** A VolumeTurner and an Oracle that get the same calls; every answer that differs is told. */
final class Pair {
    static final int MOST_TOLD = 20;
    static int wrong = 0;

    final String title;
    final VolumeTurner x;
    final Oracle o;
    final List<String> log = new ArrayList<>();

    interface Call {
        long answer();
    }

    interface Deed {
        void happen();
    }

    Pair(String title, int sectors) {
        this.title = title;
        x = new VolumeTurner(sectors);
        o = new Oracle(sectors);
        log.add("new(" + sectors + ")");
    }

    static String outcome(Call call) {
        try {
            return String.valueOf(call.answer());
        } catch (RuntimeException e) {
            return "throws." + e.getClass().getSimpleName();
        }
    }

    static Call of(Deed deed) {
        return () -> {
            deed.happen();
            return 0;
        };
    }

    String both(String text, Call a, Call b) {
        String got = outcome(a);
        String due = outcome(b);
        log.add(text + " " + due);
        if (!got.equals(due)) {
            tell(text + " answered " + got + ", due is " + due);
        }
        return due;
    }

    void tell(String what) {
        wrong++;
        if (wrong <= MOST_TOLD) {
            System.out.println(title + ": " + what + "\n    behind " + log);
        }
    }

    void feed(int a, int b, int c, int d, int e) {
        both("feed(" + a + ", " + b + ", " + c + ", " + d + ", " + e + ")",
                of(() -> x.feed(a, b, c, d, e)), of(() -> o.feed(a, b, c, d, e)));
    }

    void end(int n) {
        both("end(" + n + ")", () -> x.end(n), () -> o.end(n));
    }

    void clear() {
        both("clear()", of(() -> x.clear()), of(() -> o.clear()));
    }

    void tape(byte[] bytes) {
        for (int i = 0; i < bytes.length; i += 20) {
            int[] words = new int[5];
            int n = Math.min(20, bytes.length - i);
            for (int j = 0; j < n; j++) {
                words[j / 4] |= (bytes[i + j] & 255) << 24 - 8 * (j % 4);
            }
            feed(words[0], words[1], words[2], words[3], words[4]);
            end(n);
        }
    }

    void name(String name) {
        byte[] bytes = new byte[2 * name.length()];
        for (int i = 0; i < name.length(); i++) {
            bytes[2 * i] = (byte) (name.charAt(i) >> 8);
            bytes[2 * i + 1] = (byte) name.charAt(i);
        }
        tape(bytes);
    }

    String format(int cluster, int before, int tables, int id) {
        return both("format(" + cluster + ", " + before + ", " + tables + ", " + id + ")",
                () -> x.format(cluster, before, tables, id), () -> o.format(cluster, before, tables, id));
    }

    String poke(int sector, int at, int value) {
        return both("poke(" + sector + ", " + at + ", " + value + ")",
                () -> x.poke(sector, at, value) ? 1 : 0, () -> o.poke(sector, at, value) ? 1 : 0);
    }

    String kind() {
        return both("kind()", x::kind, o::kind);
    }

    String fault() {
        return both("fault()", x::fault, o::fault);
    }

    String byteAt(int sector, int at) {
        return both("byteAt(" + sector + ", " + at + ")", () -> x.byteAt(sector, at), () -> o.byteAt(sector, at));
    }

    String items() {
        return both("items()", x::items, o::items);
    }

    String letter(int k, int i) {
        return both("letter(" + k + ", " + i + ")", () -> x.letter(k, i), () -> o.letter(k, i));
    }

    String about(int k, int what) {
        return both("about(" + k + ", " + what + ")", () -> x.about(k, what), () -> o.about(k, what));
    }

    String content(int k, int at) {
        return both("content(" + k + ", " + at + ")", () -> x.content(k, at), () -> o.content(k, at));
    }

    String enter(int k) {
        return both("enter(" + k + ")", () -> x.enter(k), () -> o.enter(k));
    }

    String up() {
        return both("up()", () -> x.up() ? 1 : 0, () -> o.up() ? 1 : 0);
    }

    String make(boolean directory) {
        return both("make(" + directory + ")", () -> x.make(directory), () -> o.make(directory));
    }

    String make(String name, boolean directory) {
        name(name);
        return make(directory);
    }

    String write(int k) {
        return both("write(" + k + ")", () -> x.write(k), () -> o.write(k));
    }

    String grow(int k, int n, int seed) {
        return both("grow(" + k + ", " + n + ", " + seed + ")", () -> x.grow(k, n, seed), () -> o.grow(k, n, seed));
    }

    String cut(int k, int size) {
        return both("cut(" + k + ", " + size + ")", () -> x.cut(k, size), () -> o.cut(k, size));
    }

    String remove(int k) {
        return both("remove(" + k + ")", of(() -> x.remove(k)), of(() -> o.remove(k)));
    }

    String stamp(int k, int what, int day, int time) {
        return both("stamp(" + k + ", " + what + ", " + day + ", " + time + ")",
                of(() -> x.stamp(k, what, day, time)), of(() -> o.stamp(k, what, day, time)));
    }

    String plan(int p, int what) {
        return both("plan(" + p + ", " + what + ")", () -> x.plan(p, what), () -> o.plan(p, what));
    }

    String target(int p, int cluster) {
        return both("target(" + p + ", " + cluster + ")", () -> x.target(p, cluster), () -> o.target(p, cluster));
    }

    String fail(int ask, int writes) {
        return both("fail(" + ask + ", " + writes + ")",
                () -> x.fail(ask, writes) ? 1 : 0, () -> o.fail(ask, writes) ? 1 : 0);
    }

    String run(int ask, int p) {
        return both("run(" + ask + ", " + p + ")", () -> x.run(ask, p), () -> o.run(ask, p));
    }

    /** Compares every byte of the disk that can be read. */
    void wholeDisk() {
        int[] due = o.shown();
        for (int i = 0; i < due.length; i++) {
            int got = x.byteAt(i / 512, i % 512);
            if (got != due[i]) {
                tell("byteAt(" + i / 512 + ", " + i % 512 + ") answered " + got + ", due is " + due[i]);
                return;
            }
        }
    }

    /** Compares all that can be read of the items here. */
    void allHere() {
        int count = 0;
        try {
            count = o.items();
        } catch (IllegalStateException e) {
            count = 0;
        }
        items();
        for (int k = -1; k <= count; k++) {
            for (int what = -1; what <= 6; what++) {
                about(k, what);
            }
            for (int i = -1; !letter(k, i).equals("-1") || i == -1; i++) {
                if (k < 0 || k >= count) {
                    break;
                }
            }
            for (int at : new int[] {-1, 0, 1, 511, 512, 1023, 1024, 5000, 12287, 12288, 274431, 274432}) {
                content(k, at);
            }
        }
    }

    static void finish(int runs) {
        System.out.println(wrong == 0 ? runs + " runs, all answers are as due" : wrong + " answers are not as due");
        if (wrong != 0) {
            System.exit(1);
        }
    }
}
