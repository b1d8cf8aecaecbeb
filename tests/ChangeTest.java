/** Promises 16 to 21: make, write, grow, cut, remove, stamp. */
public final class ChangeTest {
    public static void main(String[] args) {
        noTable();
        shortNames();
        inventedNames();
        wrongNames();
        slots();
        slotsNotLookedAt();
        directories();
        clusters();
        room();
        writing();
        growing();
        cutting();
        removing();
        stamping();
        highestBits();
        Due.finish();
    }

    private static void noTable() {
        VolumeTurner x = new VolumeTurner(300);
        allThrow(x);
        x.format(2, 8, 2, 0);
        Feed.make(x, "F", false);
        x.poke(8, 0, 0);
        allThrow(x);
        x.poke(8, 0, 248);
        Due.is("cut", x.cut(0, 0), 0);
        Due.is("run", x.run(0, 128), 0);
        allThrow(x);
    }

    private static void allThrow(VolumeTurner x) {
        Due.throwsState("make", () -> x.make(false));
        Due.throwsState("write", () -> x.write(-1));
        Due.throwsState("grow", () -> x.grow(-1, -1, 0));
        Due.throwsState("cut", () -> x.cut(-1, -1));
        Due.throwsState("remove", () -> {
            x.remove(-1);
            return 0;
        });
        Due.throwsState("stamp", () -> {
            x.stamp(-1, -1, -1, -1);
            return 0;
        });
    }

    private static Pair small() {
        Pair p = new Pair("changes", 300);
        p.format(2, 8, 2, 0);
        return p;
    }

    /** Names that are short names as shown get one slot. Slots begin in sector 12 (C = 2, A = 12). */
    private static void shortNames() {
        Pair p = small();
        String[][] names = {{"A", "A          "}, {"ABCDEFGH", "ABCDEFGH   "}, {"ABCDEFGH.IJK", "ABCDEFGHIJK"}, {"A.B", "A       B  "},
            {"0!#$%&'(.)-@", "0!#$%&'()-@"}, {"^_`{}~", "^_`{}~     "}, {"A.BC", "A       BC "}};
        for (int i = 0; i < names.length; i++) {
            Due.is("make " + names[i][0], p.make(names[i][0], false), String.valueOf(i));
            Due.is("short name of " + names[i][0], Feed.textAt(p.x, 12, 32 * i, 11), names[i][1]);
            Due.is("name of " + names[i][0], Feed.nameOf(p.x, i), names[i][0]);
            Due.is("bits", p.x.byteAt(12, 32 * i + 11), 32);
            Due.is("WRITTEN", Feed.number(p.x, 12, 32 * i + 22, 4), 33L << 16);
            Due.is("else", Feed.number(p.x, 12, 32 * i + 12, 4) + Feed.number(p.x, 12, 32 * i + 26, 4), 0);
        }
        p.wholeDisk();
    }

    private static void inventedNames() {
        Pair p = new Pair("invented", 700);
        p.format(8, 8, 2, 0);
        String[][] names = {{"a", "A~1        "}, {"Ab", "AB~1       "}, {"abcdefghi", "ABCDEF~1   "}, {"ABCDEFGHI", null},
            {"ABCDEFGHJ", "ABCDEF~2   "}, {"abcdef g.h i j k", "ABCDEF~1HIJ"}, {"a.b.c", "AB~1    C  "}, {".turned", "TURNED~1   "},
            {"..x", "~1      X  "}, {" x", "X~1        "}, {"A B", "AB~2       "}, {"x+y=z.[a]", "X_Y_Z~1 _A_"}, {"\u00e9", "_~1        "},
            {"\u00c9", "_~2        "}, {"A.html", "A~1     HTM"}, {"A.BCDE", "A~1     BCD"}, {"AB.", null}, {"AB ", null},
            {"A..B", "A~1     B  "}, {"A. B", "A~2     B  "}, {". .y", "~1      Y  "}, {"A.b", "A~3     B  "}, {". x", "X~2        "}};
        int made = 0;
        for (String[] n : names) {
            String answer = p.make(n[0], false);
            if (n[1] == null) {
                Due.is("make " + n[0], answer, "throws.IllegalArgumentException");
                continue;
            }
            Due.is("make " + n[0], answer, String.valueOf(made));
            Oracle.Node item = p.o.tree().items.get(1 + made);
            Due.is("short name of " + n[0], Feed.textAt(p.x, item.at / 512, item.at % 512, 11), n[1]);
            made++;
        }
        p.wholeDisk();
        manyAlike();
    }

    /** Numbers of two and three digits take the room of the base. */
    private static void manyAlike() {
        Pair p = new Pair("many alike", 1024);
        p.format(8, 8, 1, 0);
        for (int i = 1; i <= 110; i++) {
            p.make("abcdefghij" + i, i % 50 == 0);
        }
        String[] due = {"ABCDEF~1   ", "ABCDEF~9   ", "ABCDE~10   ", "ABCDE~99   ", "ABCD~100   ", "ABCD~110   "};
        int[] numbers = {1, 9, 10, 99, 100, 110};
        for (int i = 0; i < due.length; i++) {
            int at = p.o.tree().items.get(numbers[i]).at;
            Due.is("short name " + numbers[i], Feed.textAt(p.x, at / 512, at % 512, 11), due[i]);
        }
        p.remove(4);
        Due.is("the number that is free", p.make("abcdefghijk", false), "4");
        int at = p.o.tree().items.get(5).at;
        Due.is("short name", Feed.textAt(p.x, at / 512, at % 512, 11), "ABCDEF~5   ");
        p.wholeDisk();
    }

    private static void wrongNames() {
        Pair p = small();
        p.make("FOO", false);
        p.make("long name", false);
        String long255 = "x".repeat(255);
        String[] wrong = {"", ".", "..", "...", "a.", "a ", " ", "\u001f", "a\u0000", "\"", "*", "/", ":", "<", ">", "?", "\\", "|",
            "\u007f", "\ud800", "\udfff", "\ufffe", "\uffff", "FOO", "foo", "Foo", "LONG NAME", "LONGNA~1", long255 + "x"};
        for (String name : wrong) {
            p.name(name);
            Due.is("make " + name, p.make(false), "throws.IllegalArgumentException");
            p.name(name);
            Due.is("make " + name, p.make(true), "throws.IllegalArgumentException");
        }
        p.tape(new byte[] {0, 65, 0});
        Due.is("odd", p.make(false), "throws.IllegalArgumentException");
        p.tape(new byte[512]);
        Due.is("too long", p.make(false), "throws.IllegalArgumentException");
        p.tape(new byte[4096]);
        Due.is("much too long", p.make(false), "throws.IllegalArgumentException");
        p.wholeDisk();
        String[] right = {"longna~1", "long name 2", "foo ", "\u0020a", "\ud7ff", "\ue000", "\ufffd", "\u00c9", "\u00e9", "F\u00d6O", "f\u00f6o"};
        for (String name : right) {
            p.make(name, false);
        }
        Due.is("items", p.items(), "12");
        p.make(long255, false);
        Due.is("items", p.items(), "13");
        Due.is("the longest name again", p.make(long255.toUpperCase(), false), "throws.IllegalArgumentException");
        p.wholeDisk();
    }

    /** Of a removed item's slots the first ones that are enough are taken. */
    private static void slots() {
        Pair p = small();
        String[] names = {"A", "two slots", "B", "a name that has three", "C", "D"};
        for (String name : names) {
            p.make(name, false);
        }
        // Slots: 0 A, 1-2 two slots, 3 B, 4-6 a name that has three, 7 C, 8 D.
        p.remove(3);
        p.remove(1);
        Due.is("three slots", p.make("also one with three", false), "2");
        Due.is("two slots", p.make("two SLOTS", false), "1");
        p.wholeDisk();
        p.remove(0);
        p.remove(0);
        Due.is("three slots of two items", p.make("fifteen letters", false), "0");
        Due.is("at the end", p.make("E", false), "5");
        Due.is("items", p.items(), "6");
        p.wholeDisk();
        for (int i = 0; i < 6; i++) {
            p.remove(0);
        }
        Due.is("items", p.items(), "0");
        Due.is("slot 0 again", p.make("Z", false), "0");
        p.wholeDisk();
        manySlots();
    }

    /** A directory of many clusters, which are added as they are needed, also across their bounds. */
    private static void manySlots() {
        Pair p = new Pair("many slots", 400);
        p.format(2, 8, 1, 0);
        for (int i = 0; i < 60; i++) {
            p.make("name of some length " + "x".repeat(i % 40) + i, i % 3 == 0);
            if (i % 4 == 3) {
                p.remove(i / 3);
            }
            if (i % 10 == 0) {
                p.wholeDisk();
            }
        }
        p.wholeDisk();
        p.fault();
    }

    /** What stands behind the first slot with 0 must not come to light. */
    private static void slotsNotLookedAt() {
        Pair p = small();
        for (int s = 0; s < 32; s++) {
            p.poke(12 + s / 16, s % 16 * 32 + 5, 99);
            p.poke(12 + s / 16, s % 16 * 32, s == 0 ? 0 : 65);
        }
        Due.is("fault", p.fault(), "0");
        p.wholeDisk();
        Due.is("make", p.make("A", false), "0");
        Due.is("items", p.items(), "1");
        p.wholeDisk();
        p.make("a name with three slots", false);
        p.wholeDisk();
        Due.is("items", p.items(), "2");
        p.remove(0);
        Due.is("the slot behind was looked at", p.make("B", false), "0");
        p.wholeDisk();
        for (int i = 0; i < 28; i++) {
            p.make("F" + i, false);
        }
        p.wholeDisk();
        p.items();
    }

    private static void directories() {
        Pair p = small();
        Due.is("make", p.make("D", true), "0");
        Due.is("bits", p.x.byteAt(12, 11), 48);
        Due.is("first cluster", Feed.number(p.x, 12, 26, 2), 3);
        Due.is("size", Feed.number(p.x, 12, 28, 4), 0);
        Due.is(". ", Feed.textAt(p.x, 14, 0, 12), ".          \u0010");
        Due.is("its cluster", Feed.number(p.x, 14, 26, 2), 3);
        Due.is("its day", Feed.number(p.x, 14, 24, 2), 33);
        Due.is(".. ", Feed.textAt(p.x, 14, 32, 12), "..         \u0010");
        Due.is("its cluster", Feed.number(p.x, 14, 58, 2), 0);
        Due.is("its day", Feed.number(p.x, 14, 56, 2), 33);
        p.enter(0);
        p.make("E", true);
        Due.is(".. of E", Feed.number(p.x, 16, 58, 2), 3);
        p.wholeDisk();
        Due.is("about D", p.up() + p.about(0, 0) + p.about(0, 5), "110");
    }

    /** The lowest free cluster comes first, a new directory's own before its parent's. */
    private static void clusters() {
        Pair p = small();
        p.make("A", false);
        p.grow(0, 3000, 1);
        p.make("B", false);
        p.grow(1, 3000, 2);
        p.cut(0, 1);
        p.grow(1, 1500, 3);
        Due.is("4 behind 8", Feed.number(p.x, 8, 4 * 8, 4), 4);
        Due.is("5 behind 4", Feed.number(p.x, 8, 4 * 4, 4), 5);
        Due.is("none behind 5", Feed.number(p.x, 8, 4 * 5, 4), 268435455);
        p.wholeDisk();
        for (int i = 0; i < 30; i++) {
            p.make("F" + i, false);
        }
        Due.is("the root has one cluster", Feed.number(p.x, 8, 8, 4), 268435455);
        p.make("DIR", true);
        Due.is("the directory comes first", Feed.number(p.x, 8, 4 * 9, 4), 268435455);
        Due.is("then the root's", Feed.number(p.x, 8, 8, 4), 10);
        p.wholeDisk();
        Due.is("fault", p.fault(), "0");
    }

    private static void room() {
        Pair p = small();
        p.make("F", false);
        // K = 144: 142 clusters of 1024 bytes are free behind the root.
        Due.is("a byte too much", p.grow(0, 143 * 1024 + 1, 0), "throws.UnsupportedOperationException");
        p.wholeDisk();
        Due.is("all", p.grow(0, 143 * 1024, 0), "146432");
        Due.is("one more", p.grow(0, 1, 0), "throws.UnsupportedOperationException");
        p.tape(new byte[] {1});
        Due.is("one more", p.write(0), "throws.UnsupportedOperationException");
        Due.is("none more", p.grow(0, 0, 0), "146432");
        Due.is("none more", p.write(0), "146432");
        Due.is("a file without clusters", p.make("G", false), "1");
        Due.is("a directory", p.make("D", true), "throws.UnsupportedOperationException");
        Due.is("a wrong name first", p.make("g", true), "throws.IllegalArgumentException");
        for (int i = 0; i < 30; i++) {
            p.make("F" + i, false);
        }
        Due.is("no slot", p.make("X", false), "throws.UnsupportedOperationException");
        p.wholeDisk();
        p.cut(0, 142 * 1024);
        Due.is("a directory and its slot", p.make("D", true), "throws.UnsupportedOperationException");
        Due.is("its slot alone", p.make("X", false), "32");
        p.cut(0, 141 * 1024);
        Due.is("a directory", p.make("D", true), "33");
        p.wholeDisk();
        Due.is("fault", p.fault(), "0");
    }

    private static void writing() {
        Pair p = small();
        Due.is("write to none", p.write(0), "throws.IndexOutOfBoundsException");
        p.make("F", false);
        p.make("D", true);
        p.tape(new byte[] {1, 2, 3});
        Due.is("write to a directory", p.write(1), "throws.IllegalArgumentException");
        p.tape(new byte[] {1, 2, 3});
        Due.is("write", p.write(0), "3");
        p.tape(new byte[] {4, 5});
        Due.is("write", p.write(0), "5");
        for (int i = 0; i < 5; i++) {
            Due.is("content", p.content(0, i), String.valueOf(i + 1));
        }
        byte[] bytes = new byte[1021];
        bytes[1018] = 77;
        bytes[1019] = 78;
        p.tape(bytes);
        Due.is("write", p.write(0), "1026");
        Due.is("content", p.content(0, 1023) + " " + p.content(0, 1024), "77 78");
        p.wholeDisk();
    }

    private static void growing() {
        Pair p = new Pair("growing", 1024);
        p.format(4, 8, 2, 0);
        Due.is("grow none", p.grow(0, -1, 0), "throws.IndexOutOfBoundsException");
        p.make("F", false);
        p.make("D", true);
        Due.is("grow a directory", p.grow(1, 1, 0), "throws.IllegalArgumentException");
        int[] wrong = {-1, 400001, Integer.MIN_VALUE, Integer.MAX_VALUE};
        for (int n : wrong) {
            Due.is("grow " + n, p.grow(0, n, 0), "throws.IllegalArgumentException");
        }
        Due.is("grow", p.grow(0, 400000, -7), "400000");
        for (int i = 0; i < 400000; i += 1999) {
            Due.is("content", p.content(0, i), String.valueOf(-7 + i * i + (i >> 8) & 255));
        }
        Due.is("grow", p.grow(0, 100, 3), "400100");
        Due.is("content", p.content(0, 400009), String.valueOf(3 + 81));
        p.wholeDisk();
    }

    private static void cutting() {
        Pair p = small();
        p.make("F", false);
        p.make("D", true);
        Due.is("cut none", p.cut(2, 0), "throws.IndexOutOfBoundsException");
        Due.is("cut a directory", p.cut(1, 0), "throws.IllegalArgumentException");
        Due.is("cut an empty file", p.cut(0, 0), "0");
        Due.is("to more", p.cut(0, 1), "throws.IllegalArgumentException");
        Due.is("to less than none", p.cut(0, -1), "throws.IllegalArgumentException");
        p.grow(0, 5000, 1);
        Due.is("to more", p.cut(0, 5001), "throws.IllegalArgumentException");
        Due.is("to all", p.cut(0, 5000), "0");
        Due.is("to four clusters", p.cut(0, 4096), "1");
        Due.is("content", p.content(0, 4096), "-1");
        Due.is("to a byte of the fourth", p.cut(0, 3073), "0");
        p.wholeDisk();
        Due.is("what was there stays on the disk", p.x.byteAt(22, 1), 1 + 3073 * 3073 + 12 & 255);
        p.grow(0, 2, 200);
        p.wholeDisk();
        // The tables stay if no cluster becomes free: the chain's end may be any.
        p.poke(8, 4 * 7, 248);
        p.poke(10, 4 * 7, 248);
        Due.is("in the last cluster", p.fault() + p.cut(0, 3074), "00");
        Due.is("the end stays", Feed.number(p.x, 8, 4 * 7, 4), 268435448);
        Due.is("to a byte", p.cut(0, 1), "3");
        Due.is("to none", p.cut(0, 0), "1");
        Due.is("first cluster", Feed.number(p.x, 12, 26, 2), 0);
        p.wholeDisk();
        Due.is("fault", p.fault(), "0");
    }

    private static void removing() {
        Pair p = small();
        Due.is("remove none", p.remove(0), "throws.IndexOutOfBoundsException");
        p.make("file with parts", false);
        p.grow(0, 3000, 1);
        p.make("D", true);
        p.enter(1);
        p.make("F", false);
        p.up();
        Due.is("remove a full directory", p.remove(1), "throws.IllegalArgumentException");
        Due.is("remove nothing", p.remove(-1), "throws.IndexOutOfBoundsException");
        Due.is("remove nothing", p.remove(2), "throws.IndexOutOfBoundsException");
        p.wholeDisk();
        p.remove(0);
        Due.is("its slots", p.x.byteAt(12, 0) + " " + p.x.byteAt(12, 32) + " " + p.x.byteAt(12, 64), "229 229 229");
        Due.is("the other bytes stay", Feed.textAt(p.x, 12, 65, 10), "ILEWI~1   ");
        Due.is("items", p.items(), "1");
        p.wholeDisk();
        p.enter(0);
        p.remove(0);
        p.up();
        p.remove(0);
        Due.is("items", p.items(), "0");
        p.wholeDisk();
        Due.is("fault", p.fault(), "0");
    }

    private static void stamping() {
        Pair p = small();
        Due.is("stamp none", p.stamp(0, 9, 0, 0), "throws.IndexOutOfBoundsException");
        p.make("F", false);
        p.make("D", true);
        int[] days = {0, 33, 32, 64 + 29, 512 + 64 + 29, 20 * 512 + 64 + 29, 120 * 512 + 64 + 29, 127 * 512 + 12 * 32 + 31, 65535, 65536,
            65536 + 33, -1, Integer.MIN_VALUE, Integer.MAX_VALUE, 13 * 32 + 1};
        int[] times = {0, 1, 29, 30, 59 * 32, 60 * 32, 23 * 2048 + 59 * 32 + 29, 24 * 2048, 65535, 65536, -1, Integer.MIN_VALUE,
            Integer.MAX_VALUE, 199, 200};
        for (int what = -1; what <= 6; what++) {
            for (int day : days) {
                for (int time : times) {
                    p.stamp(what & 1, what, day, time);
                    p.stamp(1, what, day, time);
                }
            }
            p.wholeDisk();
            p.log.clear();
        }
        hundredths();
        Due.is("fault", p.fault(), "0");
    }

    private static void hundredths() {
        Pair p = small();
        p.make("F", false);
        String wrong = "throws.IllegalArgumentException";
        Due.is("hundredths without MADE", p.stamp(0, 3, 33, 1), wrong);
        Due.is("none of them", p.stamp(0, 3, 33, 0), "0");
        Due.is("a time without MADE", p.stamp(0, 0, 0, 1), wrong);
        Due.is("MADE", p.stamp(0, 0, 33, 5), "0");
        Due.is("hundredths", p.stamp(0, 3, -1, 199), "0");
        Due.is("too many", p.stamp(0, 3, 0, 200), wrong);
        Due.is("no MADE with hundredths", p.stamp(0, 0, 0, 0), wrong);
        Due.is("hundredths", p.stamp(0, 3, 0, 0), "0");
        Due.is("no MADE", p.stamp(0, 0, 0, 0), "0");
        Due.is("no WRITTEN", p.stamp(0, 2, 0, 0), wrong);
        Due.is("READ with a time", p.stamp(0, 1, 33, 1), wrong);
        Due.is("READ", p.stamp(0, 1, 33, 0), "0");
        Due.is("no READ", p.stamp(0, 1, 0, 0), "0");
        Due.is("read only", p.stamp(0, 4, -5, 1) + p.about(0, 1), "01");
        Due.is("read only hinders nothing", p.grow(0, 10, 1) + p.cut(0, 5), "100");
        Due.is("neither", p.stamp(0, 4, 0, 2), wrong);
        Due.is("neither", p.stamp(0, 4, 0, -1), wrong);
        Due.is("not read only", p.stamp(0, 4, 7, 0) + p.about(0, 1), "00");
        p.wholeDisk();
    }

    /** The highest four bits of an entry stay, also if the cluster becomes free or is taken. */
    private static void highestBits() {
        Pair p = small();
        for (int c = 3; c < 8; c++) {
            p.poke(8, 4 * c + 3, 16 * c);
            p.poke(10, 4 * c + 3, 16 * c);
        }
        Due.is("fault", p.fault(), "0");
        p.make("F", false);
        p.grow(0, 3000, 1);
        p.make("D", true);
        p.wholeDisk();
        Due.is("entry 3", Feed.number(p.x, 8, 12, 4), 0x30000004L);
        Due.is("entry 5", Feed.number(p.x, 10, 20, 4), 0x5fffffffL);
        p.cut(0, 1000);
        p.remove(1);
        Due.is("entry 5", Feed.number(p.x, 10, 20, 4), 0x50000000L);
        p.wholeDisk();
        Due.is("fault", p.fault(), "0");
    }
}
