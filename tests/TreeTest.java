/** Promises 10 to 15: items, letter, about, content, enter, up, of either volume. */
public final class TreeTest {
    public static void main(String[] args) {
        nothing();
        both();
        letters();
        times();
        contents();
        walking();
        hereBehindCalls();
        unsound();
        Due.finish();
    }

    private static void nothing() {
        VolumeTurner x = new VolumeTurner(300);
        Due.throwsState("items", () -> x.items());
        Due.throwsState("letter", () -> x.letter(0, 0));
        Due.throwsState("about", () -> x.about(-1, 9));
        Due.throwsState("content", () -> x.content(0, 0));
        Due.throwsState("enter", () -> x.enter(0));
        Due.throwsState("up", () -> x.up() ? 1 : 0);
    }

    /** A volume that can be turned: d (with two items), file, the empty file g, é (read only). */
    private static VolumeTurner volume() {
        VolumeTurner x = new VolumeTurner(600);
        x.format(2, 9, 1, 9);
        Feed.make(x, "d", true);
        Feed.make(x, "FILE.TXT", false);
        x.grow(1, 20000, 5);
        Feed.make(x, "g", false);
        Feed.make(x, "\u00e9\u4e2d", true);
        x.stamp(3, 4, 0, 1);
        x.stamp(1, 4, 0, 1);
        x.enter(0);
        Feed.make(x, "in", false);
        x.grow(0, 3, 65);
        Feed.make(x, "sub", true);
        x.up();
        return x;
    }

    private static void both() {
        VolumeTurner x = volume();
        look(x, 4, 0);
        Due.is("run", x.run(0, 64), 0);
        look(x, 5, 1024);
        Due.is("record's name", Feed.nameOf(x, 4), ".turned");
        Due.is("record is no directory", x.about(4, 0), 0);
        Due.is("record is read only", x.about(4, 1), 1);
        Due.is("record's times", x.about(4, 2) + x.about(4, 3) + x.about(4, 4), 0);
        // A is 12: three built blocks, the blocks 3 to 5, and one of each of the four directories.
        Due.is("record's size", x.about(4, 5), 1024 * (3 + 12 / 2 - 3 + 4));
        Due.throwsArgument("the record cannot be entered", () -> x.enter(4));
        Due.is("back", x.run(1, 64), 0);
        look(x, 4, 0);
    }

    private static void look(VolumeTurner x, int count, int directorySize) {
        Due.is("items", x.items(), count);
        String[] names = {"d", "FILE.TXT", "g", "\u00c3\u00a9\u00e4\u00b8\u00ad"};
        long[] directory = {1, 0, 0, 1};
        long[] readOnly = {0, 1, 0, 1};
        long[] size = {directorySize, 20000, 0, directorySize};
        for (int k = 0; k < 4; k++) {
            Due.is("name " + k, Feed.nameOf(x, k), names[k]);
            Due.is("directory " + k, x.about(k, 0), directory[k]);
            Due.is("read only " + k, x.about(k, 1), readOnly[k]);
            Due.is("READ " + k, x.about(k, 2), 315532800);
            Due.is("size " + k, x.about(k, 5), size[k]);
        }
        for (int k : new int[] {-1, count, Integer.MIN_VALUE, Integer.MAX_VALUE}) {
            Due.throwsIndex("letter", () -> x.letter(k, 0));
            Due.throwsIndex("about", () -> x.about(k, 6));
            Due.throwsIndex("content", () -> x.content(k, 0));
            Due.throwsIndex("enter", () -> x.enter(k));
        }
        for (int what : new int[] {-1, 6, Integer.MIN_VALUE, Integer.MAX_VALUE}) {
            Due.throwsArgument("about", () -> x.about(0, what));
        }
        Due.throwsArgument("enter a file", () -> x.enter(1));
        Due.is("content of a directory", x.content(0, 0), -1);
        Due.is("content of an empty file", x.content(2, 0), -1);
        for (int at : new int[] {0, 1, 1023, 1024, 12287, 12288, 19999}) {
            Due.is("content at " + at, x.content(1, at), 5 + at * at + (at >> 8) & 255);
        }
        for (int at : new int[] {-1, 20000, Integer.MIN_VALUE, Integer.MAX_VALUE}) {
            Due.is("content at " + at, x.content(1, at), -1);
        }
        Due.is("enter", x.enter(0), 2);
        Due.is("items there", x.items(), 2);
        Due.is("name there", Feed.nameOf(x, 1), "sub");
        Due.is("content there", x.content(0, 2), 69);
        Due.is("enter", x.enter(1), 0);
        Due.is("items there", x.items(), 0);
        Due.throwsIndex("letter there", () -> x.letter(0, 0));
        Due.is("up", x.up(), true);
        Due.is("items", x.items(), 2);
        Due.is("up", x.up(), true);
        Due.is("up", x.up(), false);
        Due.is("items", x.items(), count);
    }

    private static void letters() {
        Pair p = new Pair("letters", 700);
        p.format(4, 8, 1, 0);
        p.make("\u007e\u0080\u07ff\u0800\uffff".replace('\uffff', '\ufffd'), false);
        int[] due = {0x7e, 0xc2, 0x80, 0xdf, 0xbf, 0xe0, 0xa0, 0x80, 0xef, 0xbf, 0xbd};
        for (int turn = 0; turn < 2; turn++) {
            for (int i = 0; i < due.length; i++) {
                Due.is("letter " + i, p.letter(0, i), String.valueOf(due[i]));
            }
            Due.is("behind the last one", p.letter(0, due.length), "-1");
            Due.is("before the first one", p.letter(0, -1), "-1");
            Due.is("far behind", p.letter(0, Integer.MAX_VALUE), "-1");
            p.run(0, 64);
        }
    }

    private static void times() {
        VolumeTurner x = new VolumeTurner(300);
        x.format(4, 8, 1, 0);
        Feed.make(x, "F", false);
        Due.is("READ of a new file", x.about(0, 2), 315532800L);
        Due.is("MADE of a new file", x.about(0, 3), 315532800L);
        Due.is("WRITTEN of a new file", x.about(0, 4), 315532800L);
        // 31 December 1999, 23:59:58
        x.stamp(0, 2, 19 * 512 + 12 * 32 + 31, 23 * 2048 + 59 * 32 + 29);
        Due.is("WRITTEN", x.about(0, 4), 946684798L);
        Due.is("READ is like it", x.about(0, 2), 946684798L);
        Due.is("MADE is like it", x.about(0, 3), 946684798L);
        // 29 February 2000; 1 March 2000, 12:34:56.78
        x.stamp(0, 1, 20 * 512 + 2 * 32 + 29, 0);
        Due.is("READ", x.about(0, 2), 951782400L);
        x.stamp(0, 0, 20 * 512 + 3 * 32 + 1, 12 * 2048 + 34 * 32 + 28);
        x.stamp(0, 3, 0, 78);
        Due.is("MADE", x.about(0, 3), 951914096L);
        x.stamp(0, 3, 0, 178);
        Due.is("MADE with a second more", x.about(0, 3), 951914097L);
        x.stamp(0, 3, 0, 100);
        Due.is("MADE with a second more", x.about(0, 3), 951914097L);
        x.stamp(0, 3, 0, 99);
        Due.is("MADE without", x.about(0, 3), 951914096L);
        // 7 February 2106, 6:28:14, and two seconds later; 31 December 2107
        x.stamp(0, 2, 126 * 512 + 2 * 32 + 7, 6 * 2048 + 28 * 32 + 7);
        Due.is("the last but one", x.about(0, 4), 4294967294L);
        x.stamp(0, 2, 126 * 512 + 2 * 32 + 7, 6 * 2048 + 28 * 32 + 8);
        Due.is("lowest 32 bits", x.about(0, 4), 0L);
        x.stamp(0, 2, 127 * 512 + 12 * 32 + 31, 23 * 2048 + 59 * 32 + 29);
        Due.is("lowest 32 bits", x.about(0, 4), 4354819198L - 4294967296L);
        x.stamp(0, 2, 120 * 512 + 3 * 32 + 1, 0);
        Due.is("1 March 2100", x.about(0, 4), 4107542400L);
        everyMonth();
    }

    private static void everyMonth() {
        Pair p = new Pair("every month", 300);
        p.format(4, 8, 1, 0);
        p.make("F", false);
        for (int month = 0; month < 128 * 12; month++) {
            for (int day : new int[] {1, 28, 29}) {
                p.stamp(0, 2, month / 12 * 512 + (month % 12 + 1) * 32 + day, 0);
                p.about(0, 4);
            }
            p.log.clear();
        }
    }

    private static void contents() {
        Pair p = new Pair("contents", 1024);
        p.format(2, 8, 2, 0);
        p.make("small file between", false);
        p.make("BIG", false);
        for (int i = 0; i < 12; i++) {
            p.grow(1, 25000 + i, i);
            p.grow(0, 700, i);
        }
        int[] places = {0, 12287, 12288, 12289, 274431, 274432, 274433, 300065, 300066};
        for (int turn = 0; turn < 3; turn++) {
            for (int at : places) {
                p.content(1, at);
                p.content(0, at);
            }
            for (int at = 0; at < 300100; at += 997) {
                p.content(1, at);
            }
            Due.is("run", p.run(turn % 2, 128), "0");
        }
    }

    private static void walking() {
        Pair p = new Pair("walking", 900);
        p.format(2, 8, 2, 0);
        for (int depth = 0; depth < 40; depth++) {
            p.make("file" + depth, false);
            p.make("directory" + depth, true);
            p.enter(1);
        }
        for (int turn = 0; turn < 3; turn++) {
            for (int depth = 0; depth < 42; depth++) {
                p.up();
                p.items();
            }
            for (int depth = 0; depth < 41; depth++) {
                p.letter(0, 4);
                p.enter(1);
                p.items();
            }
            Due.is("run", p.run(turn % 2, 256), "0");
            p.items();
        }
    }

    private static void hereBehindCalls() {
        VolumeTurner x = volume();
        x.enter(0);
        Due.throwsArgument("a wrong format", () -> x.format(5, 5, 5, 5));
        Due.is("HERE stays", x.items(), 2);
        Due.throwsArgument("a wrong run", () -> x.run(3, 64));
        Due.is("HERE stays", x.items(), 2);
        Feed.make(x, "more", false);
        Due.is("HERE stays", x.items(), 3);
        x.remove(0);
        Due.is("HERE stays", x.items(), 2);
        Due.is("a run that is refused", x.run(0, 63), 12);
        Due.is("HERE is the root", x.items(), 4);
        x.enter(0);
        Due.is("a run that does nothing", x.run(1, 64), 0);
        Due.is("HERE is the root", x.up(), false);
        x.enter(3);
        Due.is("a run", x.run(0, 64), 0);
        Due.is("HERE is the root", x.items(), 5);
        x.enter(0);
        Due.is("a run that does nothing", x.run(0, 64), 0);
        Due.is("HERE is the root", x.items(), 5);
        x.enter(0);
        x.format(2, 8, 1, 0);
        Due.is("HERE is the root", x.up(), false);
    }

    private static void unsound() {
        VolumeTurner x = volume();
        x.poke(9, 4, 0);
        Due.is("fault", x.fault(), 2);
        Due.throwsState("items", () -> x.items());
        Due.throwsState("letter", () -> x.letter(99, 0));
        Due.throwsState("about", () -> x.about(99, 99));
        Due.throwsState("content", () -> x.content(99, 0));
        Due.throwsState("enter", () -> x.enter(99));
        Due.throwsState("up", () -> x.up() ? 1 : 0);
        x.poke(9, 4, 255);
        Due.is("items", x.items(), 4);
    }
}
