/** The edges that the document names for changes of a table volume: the promises 16 to 21. */
final class ChangeEdges {
    private static final int MIN = Integer.MIN_VALUE;
    private static final int MAX = Integer.MAX_VALUE;
    /** Of an empty volume: its table and its root. */
    private static final int TABLE = 9;
    private static final int ROOT = 10;
    private static final int END = 268435455;
    /** All that is free in an empty volume: 122 clusters of 1024 bytes. */
    private static final int ALL_BYTES = 122 * 1024;
    private static final int DAY = 20 * 512 + 2 * 32 + 29;

    private ChangeEdges() {
    }

    static void all() {
        wants();
        clusters();
        slots();
        newSlots();
        make();
        room();
        write();
        grow();
        cut();
        remove();
        stamp();
        stampRefused();
        exceptions();
    }

    /** 256 sectors: C = 2, V = 9, one table of one sector, A = 10, K = 123; nothing in the root. */
    private static Counted empty() {
        Counted v = new Counted(256);
        v.format(2, 9, 1, 0);
        return v;
    }

    /** A root with so many files, each of one slot; its cluster has 32 of them. */
    private static Counted withFiles(int count) {
        Counted v = empty();
        for (int i = 0; i < count; i++) {
            v.file("F" + i);
        }
        return v;
    }

    private static Counted withFile() {
        return withFiles(1);
    }

    private static void wants() {
        Sentence.holds(16, "All these calls want a sound table volume.", () -> {
            Counted v = new Counted(400);
            allThrow(v, "no volume");
            v.format(2, 8, 2, 0);
            v.file("F");
            v.poke(9, 4, 255);
            Due.is("the tables are still alike where it counts", v.fault(), 2);
            allThrow(v, "not sound");
            v.poke(9, 4, 0);
            Due.is("sound again", v.cut(0, 0), 0);
            Due.is("run", v.run(0, 128), 0);
            allThrow(v, "an inode volume");
            v.run(1, 128);
            Due.is("a table volume again", v.cut(0, 0), 0);
        });
    }

    private static void allThrow(Counted v, String why) {
        v.name("X");
        Due.throwsState("make, " + why, () -> v.make(false));
        Due.throwsState("write, " + why, () -> v.write(0));
        Due.throwsState("grow, " + why, () -> v.grow(0, 0, 0));
        Due.throwsState("cut, " + why, () -> v.cut(0, 0));
        Due.throwsState("remove, " + why, () -> v.remove(0));
        Due.throwsState("stamp, " + why, () -> v.stamp(0, 4, 0, 0));
    }

    private static void clusters() {
        Sentence.holds(16, "The lowest free cluster is taken first, a new directory's own ahead of those that its entry wants", () -> {
            Counted v = withFiles(32);
            v.directory("D");
            Due.is("the directory's own is 3", v.number(12, 26, 2), 3);
            Due.is("the root goes on with 4", v.number(TABLE, 4 * 2, 4), 4);
            Due.is("the end of 3", v.number(TABLE, 4 * 3, 4), END);
            Due.is("the end of 4", v.number(TABLE, 4 * 4, 4), END);
            Due.is("the entry's cluster", v.number(14, 26, 2), 3);
        });
        Sentence.holds(18, "The lowest free cluster is taken first", () -> {
            Counted v = withFiles(3);
            v.grow(0, 2048, 0);
            v.grow(1, 1, 0);
            v.cut(0, 1);
            v.grow(2, 2048, 0);
            Due.is("4, which became free", v.number(ROOT, 64 + 26, 2), 4);
            Due.is("then 6", v.number(TABLE, 4 * 4, 4), 6);
            Due.is("the last byte in 4", v.content(2, 1023), 1023 * 1023 + 3 & 255);
            Due.is("the first byte in 6", v.content(2, 1024), 4);
            Due.is("it stands there", v.byteAt(18, 1), 1025 * 1025 + 4 & 255);
            Due.is("the only byte in 5", v.content(1, 0), 0);
            v.grow(1, 119 * 1024 - 1, 0);
            Due.is("the last one", v.number(TABLE, 4 * 124, 4), END);
            Due.is("the one before it", v.number(TABLE, 4 * 123, 4), 124);
            // The root is the last cluster now, so that 2 is free.
            Counted w = empty();
            w.poke(0, 44, 124);
            w.pokeNumber(TABLE, 4 * 2, 4, 0);
            w.pokeNumber(TABLE, 4 * 124, 4, END);
            w.file("F");
            Due.is("all of them", w.grow(0, ALL_BYTES, 0), ALL_BYTES);
            Due.is("from 2 on", w.number(254, 26, 2), 2);
        });
        Sentence.holds(18, "one that is taken is filled with 0 (tables are changed alike; the sectors 1 and 6 are never changed).", () -> {
            Counted v = new Counted(256);
            v.format(2, 8, 2, 0);
            for (int sector : new int[] {1, 6, 12, 13, 14, 15}) {
                v.poke(sector, 200, 99);
                v.poke(sector, 511, 99);
            }
            v.file("F");
            v.grow(0, 1, 77);
            v.directory("D");
            Due.is("a file's first byte", v.byteAt(12, 0), 77);
            Due.is("the others", v.byteAt(12, 200) + v.byteAt(12, 511) + v.byteAt(13, 200) + v.byteAt(13, 511), 0);
            Due.is("a directory's", v.byteAt(14, 200) + v.byteAt(14, 511) + v.byteAt(15, 200) + v.byteAt(15, 511), 0);
            for (int at = 0; at < 24; at++) {
                Due.is("byte " + at + " of the tables", v.byteAt(9, at), v.byteAt(8, at));
            }
            Due.is("sectors 1 and 6", v.byteAt(1, 200) + v.byteAt(1, 511) + v.byteAt(6, 200) + v.byteAt(6, 511), 4 * 99);
        });
        Sentence.holds(17, "READ ONLY hinders nothing.", () -> {
            Counted v = withFile();
            v.stamp(0, 4, 0, 1);
            v.text("abc");
            Due.is("write", v.write(0), 3);
            Due.is("grow", v.grow(0, 2, 0), 5);
            Due.is("cut", v.cut(0, 1), 0);
            v.stamp(0, 2, DAY, 0);
            Due.is("still read only", v.about(0, 1), 1);
            v.remove(0);
            v.directory("D");
            v.stamp(0, 4, 0, 1);
            v.enter(0);
            Due.is("make in a directory that is read only", v.file("X"), 0);
            v.remove(0);
            v.up();
            v.remove(0);
            Due.is("items", v.items(), 0);
        });
        Sentence.holds(19, "Bytes that are not told to change stay (WRITTEN too).", () -> {
            Counted v = withFile();
            v.poke(ROOT, 12, 88);
            v.stamp(0, 2, DAY, 5);
            v.grow(0, 1000, 0);
            v.cut(0, 10);
            Due.is("what was cut away stands there", v.byteAt(13, 999 - 512), 999 * 999 + 3 & 255);
            v.grow(0, 1, 200);
            Due.is("behind what was added, too", v.byteAt(12, 11), 121);
            Due.is("at 12", v.byteAt(ROOT, 12), 88);
            Due.is("WRITTEN", v.number(ROOT, 22, 4), DAY * 65536L + 5);
            v.text("x");
            v.write(0);
            Due.is("behind what was written, too", v.byteAt(12, 12), 144);
            v.remove(0);
            Due.is("of a slot that is empty", v.number(ROOT, 28, 4), 12);
            Due.is("and its name", v.textAt(ROOT, 1, 10), "0         ");
        });
        Sentence.holds(18, "Bytes that are not told to change stay (WRITTEN too).", () -> {
            Counted v = withFile();
            v.poke(ROOT, 12, 88);
            v.stamp(0, 0, DAY, 77);
            v.stamp(0, 1, DAY, 0);
            v.stamp(0, 2, DAY, 78);
            v.stamp(0, 3, 0, 199);
            String before = v.textAt(ROOT, 0, 26);
            v.grow(0, 1, 0);
            Due.is("the first byte of a file", v.textAt(ROOT, 0, 26), before);
            v.cut(0, 0);
            Due.is("without it", v.textAt(ROOT, 0, 26), before);
            v.text("x");
            v.write(0);
            Due.is("written", v.textAt(ROOT, 0, 26), before);
        });
    }

    private static void slots() {
        Sentence.holds(16, "An entry with its parts comes to the first slots, as many as needed one behind another, that are empty or"
                + " not looked at, of the chain", () -> {
            Counted v = withFiles(10);
            // Gaps of one slot (2), of two (4, 5) and at the end (9, then those that are not looked at).
            for (int k : new int[] {9, 5, 4, 2}) {
                v.remove(k);
            }
            Due.is("three slots: 9 and two behind it", v.file("fourteen units"), 6);
            Due.is("its first part", v.byteAt(ROOT, 9 * 32), 66);
            Due.is("two slots: 4 and 5", v.file("two"), 3);
            Due.is("its part", v.byteAt(ROOT, 4 * 32), 65);
            Due.is("two slots again: behind all", v.file("again"), 8);
            Due.is("its part", v.byteAt(ROOT, 12 * 32), 65);
            Due.is("one slot: 2", v.file("ONE"), 2);
            Due.is("its entry", v.textAt(ROOT, 2 * 32, 3), "ONE");
            Due.is("one slot: behind all", v.file("MORE"), 10);
            Due.is("its entry", v.textAt(ROOT, 14 * 32, 4), "MORE");
            Due.is("behind it", v.byteAt(ROOT, 15 * 32), 0);
            // Slots that are not looked at may have anything in them.
            Counted w = empty();
            for (int s = 1; s < 8; s++) {
                w.poke(ROOT, 32 * s, 65);
            }
            Due.is("five slots", w.file("forty units are as many as this one has!"), 0);
            Due.is("its first part", w.byteAt(ROOT, 0), 64 + 4);
            Due.is("its entry", w.byteAt(ROOT, 4 * 32), 'F');
            Due.is("items", w.items(), 1);
        });
        Sentence.holds(16, "if there are none, clusters are added to the chain until there are.", () -> {
            Counted v = withFiles(31);
            Due.is("the last slot", v.file("LAST"), 31);
            Due.is("no cluster more", v.number(TABLE, 4 * 2, 4), END);
            v.remove(31);
            Due.is("two slots: the last one and a new one", v.file("two"), 31);
            Due.is("a cluster more", v.number(TABLE, 4 * 2, 4), 3);
            Due.is("its part", v.byteAt(11, 480), 65);
            Due.is("its entry", v.textAt(12, 0, 5), "TWO~1");
            Due.is("behind it", v.byteAt(12, 32), 0);
            Due.is("fault", v.fault(), 0);
            Counted w = withFiles(32);
            Due.is("21 slots", w.file("n".repeat(255)), 32);
            Due.is("one cluster more", w.number(TABLE, 4 * 2, 4), 3);
            Due.is("the only one", w.number(TABLE, 4 * 3, 4), END);
            Due.is("its first part", w.byteAt(12, 0), 64 + 20);
            Due.is("fault", w.fault(), 0);
            Counted t = withFiles(20);
            Due.is("twelve slots, and nine new ones", t.file("n".repeat(255)), 20);
            Due.is("one cluster more", t.number(TABLE, 4 * 2, 4), 3);
            Due.is("the only one", t.number(TABLE, 4 * 3, 4), END);
            Due.is("its first part", t.byteAt(11, 4 * 32), 64 + 20);
            Due.is("its entry", t.byteAt(12, 8 * 32), 'N');
            Counted u = withFiles(32);
            u.remove(31);
            u.remove(12);
            Due.is("a gap that is too small, then the last one", u.file("two"), 30);
            Due.is("the gap stays", u.byteAt(ROOT, 12 * 32), 229);
            Due.is("its part", u.byteAt(11, 480), 65);
        });
    }

    private static void newSlots() {
        Sentence.holds(16, "If the slot behind them (in the chain) was not looked at before, its byte 0 becomes 0.", () -> {
            Counted v = empty();
            for (int s = 1; s < 32; s++) {
                v.poke(ROOT + s / 16, s % 16 * 32, 200);
                v.poke(ROOT + s / 16, s % 16 * 32 + 1, 201);
            }
            v.file("A");
            Due.is("slot 1", v.byteAt(ROOT, 32), 0);
            Due.is("nothing else of it", v.byteAt(ROOT, 33), 201);
            Due.is("slot 2", v.byteAt(ROOT, 64), 200);
            v.file("b");
            Due.is("slot 3", v.byteAt(ROOT, 96), 0);
            Due.is("slot 4", v.byteAt(ROOT, 128), 200);
            v.file("C");
            v.remove(1);
            v.file("D");
            Due.is("slot 1 is D", v.byteAt(ROOT, 32), 'D');
            Due.is("slot 2, which was looked at", v.byteAt(ROOT, 64), 229);
            v.remove(2);
            v.file("twenty-seven units are here");
            // Slots 2, 3, then 4 and 5, which were not looked at; 6 was not either.
            Due.is("slot 2 is a part", v.byteAt(ROOT, 64), 64 + 3);
            Due.is("slot 5 is its entry", v.byteAt(ROOT, 160), 'T');
            Due.is("slot 6", v.byteAt(ROOT, 192), 0);
            Due.is("slot 7", v.byteAt(ROOT, 224), 200);
            Due.is("fault", v.fault(), 0);
            Due.is("items", v.items(), 3);
        });
        Sentence.holds(16, "If the slot behind them (in the chain)", () -> {
            // The chain is 2, 4: behind the last slot of cluster 2 comes the first one of 4, not that of 3.
            Counted v = withFiles(32);
            v.grow(0, 1024, 0);
            v.file("G");
            Due.is("the root goes on with 4", v.number(TABLE, 8, 4), 4);
            v.remove(32);
            v.remove(31);
            v.poke(11, 480, 0);
            v.poke(14, 0, 200);
            v.file("Z");
            Due.is("slot 31", v.byteAt(11, 480), 'Z');
            Due.is("slot 32", v.byteAt(14, 0), 0);
            Due.is("the file's first byte", v.content(0, 0), 0);
            Due.is("fault", v.fault(), 0);
            // Behind the last slot of the chain nothing becomes 0, whatever was looked at before.
            Counted w = withFiles(31);
            w.grow(0, 2048, 7);
            Due.is("a byte of the file's second cluster", w.content(0, 1024), 11);
            w.file("LAST");
            Due.is("it stays", w.content(0, 1024), 11);
            Due.is("the first one, too", w.content(0, 0), 7);
        });
        Sentence.holds(16, "A new directory has one cluster; \".\" and \"..\" have the day of WRITTEN of the new entry at 24 (2),"
                + " all other days and times 0.", () -> {
            Counted v = empty();
            v.directory("D");
            v.enter(0);
            v.directory("H");
            for (int i = 0; i < 2; i++) {
                int own = 3 + i;
                int sector = 12 + 2 * i;
                Due.is("one cluster", v.number(TABLE, 4 * own, 4), END);
                Due.is(".", v.textAt(sector, 0, 12), ".          \u0010");
                Due.is("..", v.textAt(sector, 32, 12), "..         \u0010");
                Due.is("its own", v.number(sector, 26, 2), own);
                Due.is("its parent's, 0 for the root", v.number(sector, 32 + 26, 2), i == 0 ? 0 : 3);
                for (int at = 0; at <= 32; at += 32) {
                    Due.is("the day", v.number(sector, at + 24, 2), 33);
                    Due.is("all others", v.number(sector, at + 12, 4) + v.number(sector, at + 16, 4) + v.number(sector, at + 20, 4)
                            + v.number(sector, at + 28, 4), 0);
                }
                Due.is("no more slots", v.byteAt(sector, 64), i == 0 ? 'H' : 0);
            }
        });
        Sentence.holds(16, "A new entry: WRITTEN 1 January 1980, 0:00, all other days 0; at 11 (1) 32 of a file, 48 of a directory; all else 0.", () -> {
            Counted v = withFile();
            v.grow(0, 5000, 0);
            v.stamp(0, 0, DAY, 77);
            v.stamp(0, 1, DAY, 0);
            v.stamp(0, 2, DAY, 78);
            v.stamp(0, 3, 0, 199);
            v.stamp(0, 4, 0, 1);
            v.poke(ROOT, 12, 255);
            v.remove(0);
            v.file("G");
            newEntry(v, 32, 0);
            v.remove(0);
            v.directory("G");
            newEntry(v, 48, 3);
        });
        Sentence.holds(16, "Another one gets as many parts as it needs", () -> {
            Counted v = withFile();
            v.grow(0, 1, 0);
            v.poke(ROOT, 12, 255);
            v.remove(0);
            v.file("g");
            Due.is("a part in the slot of an entry", v.byteAt(ROOT, 0), 65);
            Due.is("at 12 and 26", v.byteAt(ROOT, 12) + v.number(ROOT, 26, 2), 0);
            Due.is("fault", v.fault(), 0);
        });
    }

    /** The entry in slot 0, which had other days, times and numbers before. */
    private static void newEntry(Counted v, int bits, int cluster) {
        Due.is("short name", v.textAt(ROOT, 0, 11), "G          ");
        Due.is("bits", v.byteAt(ROOT, 11), bits);
        Due.is("at 12 to 19", v.number(ROOT, 12, 8), 0);
        Due.is("at 20 to 23", v.number(ROOT, 20, 4), 0);
        Due.is("day of WRITTEN", v.number(ROOT, 24, 2), 33);
        Due.is("first cluster", v.number(ROOT, 26, 2), cluster);
        Due.is("size", v.number(ROOT, 28, 4), 0);
    }

    private static void make() {
        Sentence.holds(16, "A new file, of size 0, or directory, here", () -> {
            Counted v = empty();
            v.file("F");
            v.directory("D");
            Due.is("a file", v.about(0, 0), 0);
            Due.is("of size 0", v.about(0, 5), 0);
            Due.is("without a byte", v.content(0, 0), -1);
            Due.is("a directory", v.about(1, 0), 1);
            Due.is("without items", v.enter(1), 0);
            v.file("X");
            v.up();
            Due.is("nothing more in the root", v.items(), 2);
        });
        Sentence.holds(16, "its number among the items.", () -> {
            Counted v = new Counted(256);
            v.text("LABEL");
            v.format(2, 9, 1, 0);
            Due.is("the first one, behind the label", v.file("A"), 0);
            Due.is("the second one", v.file("b"), 1);
            Due.is("the third one", v.directory("C"), 2);
            v.remove(1);
            Due.is("between them", v.file("D"), 1);
            v.remove(0);
            Due.is("before them", v.directory("E"), 0);
            v.enter(0);
            Due.is("behind . and ..", v.file("A"), 0);
        });
    }

    private static void room() {
        Sentence.holds(16, "UnsupportedOperationException (there is no room).", () -> {
            Counted v = withFile();
            v.grow(0, ALL_BYTES, 0);
            Due.is("a file needs no cluster", v.file("G"), 1);
            v.name("D");
            Due.throwsNoRoom("a directory needs one", () -> v.make(true));
            v.cut(0, ALL_BYTES - 1024);
            Due.is("now it has one", v.directory("D"), 2);
            v.name("E");
            Due.throwsNoRoom("the next one has none", () -> v.make(true));
        });
        Sentence.holds(16, "Whether there is room is looked at before anything is changed.", () -> {
            Counted v = withFiles(32);
            v.grow(0, ALL_BYTES, 0);
            v.name("X");
            Due.throwsNoRoom("a slot", () -> v.make(false));
            v.cut(0, ALL_BYTES - 1024);
            v.name("X");
            Due.throwsNoRoom("a slot and a cluster of its own", () -> v.make(true));
            Due.is("the last cluster is free", v.number(TABLE, 4 * 124, 4), 0);
            Due.is("the root has one cluster", v.number(TABLE, 8, 4), END);
            Due.is("fault", v.fault(), 0);
            Due.is("items", v.items(), 32);
            Due.is("a slot alone", v.file("X"), 32);
            v.remove(32);
            v.cut(0, ALL_BYTES - 2048);
            Due.is("a cluster of its own alone", v.directory("X"), 32);
            Due.is("fault", v.fault(), 0);
        });
        Sentence.holds(17, "Whether there is room is looked at before anything is changed.", () -> {
            Counted v = withFile();
            v.grow(0, ALL_BYTES - 1025, 0);
            v.tape(new byte[40]);
            Due.is("into the last cluster but one", v.grow(0, 1, 9), ALL_BYTES - 1024);
            v.clear();
            Due.throwsNoRoom("more than one cluster", () -> v.grow(0, 1025, 0));
            Due.is("size", v.about(0, 5), ALL_BYTES - 1024);
            Due.is("the last cluster is free", v.number(TABLE, 4 * 124, 4), 0);
            v.tape(new byte[20]);
            Due.is("write", v.write(0), ALL_BYTES - 1004);
            Due.is("all of it", v.grow(0, 1004, 0), ALL_BYTES);
            v.tape(new byte[1]);
            Due.throwsNoRoom("one byte more", () -> v.write(0));
            Due.throwsNoRoom("one byte more", () -> v.grow(0, 1, 0));
            Due.is("none more", v.write(0), ALL_BYTES);
            Due.is("none more", v.grow(0, 0, 0), ALL_BYTES);
            Due.is("fault", v.fault(), 0);
        });
    }

    private static void write() {
        Sentence.holds(17, "The tape's bytes come behind those of file k: its size.", () -> {
            Counted v = withFile();
            Due.is("an empty tape", v.write(0), 0);
            Due.is("no cluster is taken", v.number(TABLE, 12, 4), 0);
            v.text("a");
            Due.is("one byte", v.write(0), 1);
            Due.is("the tape is used up", v.write(0), 1);
            v.grow(0, 1022, 0);
            v.text("z");
            Due.is("the last of a cluster", v.write(0), 1024);
            Due.is("no cluster more", v.number(TABLE, 12, 4), END);
            v.text("yx");
            Due.is("the first of the next one", v.write(0), 1026);
            Due.is("a cluster more", v.number(TABLE, 12, 4), 4);
            Due.is("bytes", v.content(0, 0) + " " + v.content(0, 1023) + " " + v.content(0, 1024) + " " + v.content(0, 1025), "97 122 121 120");
            Due.is("none behind", v.content(0, 1026), -1);
        });
        Sentence.holds(17, "The tape's bytes come behind those of file k", () -> {
            Counted v = withFile();
            for (int i = 0; i < 205; i++) {
                v.feed(i, i, i, i, i);
                v.end(i < 204 ? 20 : 16);
            }
            Due.is("4096 bytes", v.write(0), 4096);
            Due.is("the first ones", v.content(0, 3), 0);
            Due.is("those of the second call", v.content(0, 23), 1);
            Due.is("the last one", v.content(0, 4095), 204);
            Due.is("four clusters", v.number(TABLE, 4 * 6, 4), END);
        });
        Sentence.holds(17, "IllegalArgumentException if it is a directory.", () -> {
            Counted v = empty();
            v.directory("D");
            v.text("abc");
            Due.throwsArgument("write", () -> v.write(0));
            Due.is("the tape is used up", v.end(0), 0);
            Due.throwsArgument("write nothing", () -> v.write(0));
            Due.throwsArgument("grow", () -> v.grow(0, 0, 0));
            Due.throwsArgument("cut", () -> v.cut(0, 0));
        });
    }

    private static void grow() {
        Sentence.holds(18, "Likewise n bytes, of which byte i is the lowest eight bits of seed + i * i + (i >> 8).", () -> {
            Counted v = new Counted(1024);
            v.format(4, 9, 1, 0);
            v.file("F");
            Due.is("the most", v.grow(0, 400000, 250), 400000);
            // From 46341 on i * i is more than an int holds.
            for (long i : new long[] {0, 1, 15, 16, 255, 256, 257, 1023, 46340, 46341, 65535, 65536, 92681, 399999}) {
                Due.is("byte " + i, v.content(0, (int) i), (250 + i * i + i / 256) % 256);
            }
            int[] seeds = {0, -1, MIN, MAX, 255, 256};
            for (int j = 0; j < seeds.length; j++) {
                Due.is("grow", v.grow(0, 2, seeds[j]), 400002 + 2 * j);
                Due.is("byte 0 counts from the old size", v.content(0, 400000 + 2 * j), seeds[j] & 255);
                Due.is("byte 1", v.content(0, 400001 + 2 * j), (seeds[j] & 255) + 1 & 255);
            }
            Due.is("none", v.grow(0, 0, 9), 400012);
        });
        Sentence.holds(18, "IllegalArgumentException also if n is not 0 .. 400000.", () -> {
            Counted v = withFile();
            for (int n : new int[] {-1, 400001, MIN, MAX}) {
                Due.throwsArgument("grow " + n, () -> v.grow(0, n, 0));
                Due.throwsIndex("no such item comes first", () -> v.grow(1, n, 0));
            }
            Due.is("nothing is changed", v.about(0, 5), 0);
            Due.throwsNoRoom("400000 is a number, but there is no room", () -> v.grow(0, 400000, 0));
            Due.is("0 is one", v.grow(0, 0, 0), 0);
            Due.is("no cluster is taken", v.number(ROOT, 26, 2), 0);
            Due.is("1 is one", v.grow(0, 1, 0), 1);
        });
    }

    private static void cut() {
        Sentence.holds(19, "File k keeps its first size bytes: how many clusters became free", () -> {
            Counted v = withFile();
            Due.is("nothing of nothing", v.cut(0, 0), 0);
            v.grow(0, 4097, 0);
            Due.is("all", v.cut(0, 4097), 0);
            Due.is("a cluster's only byte", v.cut(0, 4096), 1);
            Due.is("the last byte", v.content(0, 4095), 4095 * 4095 + 15 & 255);
            Due.is("behind it", v.content(0, 4096), -1);
            Due.is("all but the first byte of a cluster", v.cut(0, 3073), 0);
            Due.is("that byte, too", v.cut(0, 3072), 1);
            Due.is("all but one byte", v.cut(0, 1), 2);
            Due.is("its cluster's end", v.number(TABLE, 12, 4), END);
            Due.is("the next one is free", v.number(TABLE, 16, 4), 0);
            Due.is("that byte, too", v.cut(0, 0), 1);
            Due.is("no first cluster", v.number(ROOT, 26, 2), 0);
            Due.is("3 is free", v.number(TABLE, 12, 4), 0);
            Due.is("size", v.about(0, 5), 0);
            Due.is("fault", v.fault(), 0);
        });
        Sentence.holds(19, "(if none, the tables stay as they are).", () -> {
            Counted v = withFile();
            v.grow(0, 2048, 0);
            v.poke(TABLE, 16, 248);
            Due.is("another end", v.fault(), 0);
            Due.is("cut", v.cut(0, 1025), 0);
            Due.is("it stays", v.number(TABLE, 16, 4), 268435448);
            Due.is("cut", v.cut(0, 1024), 1);
            Due.is("this one is written", v.number(TABLE, 12, 4), END);
        });
        Sentence.holds(19, "IllegalArgumentException also if size is not 0 .. its size.", () -> {
            Counted v = withFile();
            Due.throwsArgument("1 of nothing", () -> v.cut(0, 1));
            v.grow(0, 1500, 0);
            for (int size : new int[] {-1, 1501, MIN, MAX}) {
                Due.throwsArgument("cut to " + size, () -> v.cut(0, size));
                Due.throwsIndex("no such item comes first", () -> v.cut(1, size));
            }
            Due.is("nothing is changed", v.about(0, 5), 1500);
            Due.is("to its size", v.cut(0, 1500), 0);
            Due.is("to 0", v.cut(0, 0), 2);
        });
    }

    private static void remove() {
        Sentence.holds(20, "Item k goes: its slots become empty (byte 0 of each: 229), its clusters free.", () -> {
            Counted v = empty();
            v.file("A");
            v.file("n".repeat(255));
            v.grow(1, 1025, 0);
            v.file("B");
            v.remove(1);
            for (int s = 0; s < 23; s++) {
                int due = s == 0 ? 'A' : s == 22 ? 'B' : 229;
                Due.is("slot " + s, v.byteAt(ROOT + s / 16, s % 16 * 32), due);
            }
            Due.is("both clusters are free", v.number(TABLE, 12, 4) + v.number(TABLE, 16, 4), 0);
            Due.is("items", v.items(), 2);
            v.remove(1);
            v.remove(0);
            Due.is("no item", v.items(), 0);
            Due.throwsIndex("remove none", () -> v.remove(0));
            Due.is("slot 23 was not looked at", v.byteAt(11, 7 * 32), 0);
            Due.is("fault", v.fault(), 0);
        });
        Sentence.holds(20, "IllegalArgumentException if it is a directory with items.", () -> {
            Counted v = empty();
            v.directory("D");
            v.enter(0);
            v.file("X");
            v.up();
            Due.throwsArgument("with one item", () -> v.remove(0));
            Due.is("it stays", v.items(), 1);
            v.enter(0);
            v.remove(0);
            v.up();
            Due.is("without items", v.remove(0), 0);
            Due.is("its cluster is free", v.number(TABLE, 12, 4), 0);
            Due.is("fault", v.fault(), 0);
            // A file whose number was that of a directory with items before.
            Counted w = withFile();
            w.directory("D");
            w.enter(1);
            w.file("X");
            w.up();
            Due.throwsArgument("with one item", () -> w.remove(1));
            w.remove(0);
            w.enter(0);
            Due.is("a file", w.remove(0), 0);
            Due.is("items", w.items(), 0);
        });
        Sentence.holds(20, "its clusters free.", () -> {
            Counted v = empty();
            v.directory("D");
            v.enter(0);
            for (int i = 0; i < 31; i++) {
                v.file("F" + i);
            }
            Due.is("the directory has two clusters", v.number(TABLE, 12, 4), 4);
            for (int i = 0; i < 31; i++) {
                v.remove(0);
            }
            Due.is("it keeps them", v.number(TABLE, 12, 4), 4);
            v.up();
            v.remove(0);
            Due.is("both are free", v.number(TABLE, 12, 4) + v.number(TABLE, 16, 4), 0);
            Due.is("fault", v.fault(), 0);
        });
    }

    private static void stamp() {
        Sentence.holds(21, "what = 0 MADE, 1 READ, 2 WRITTEN become the day and the time (of READ the time must be 0)", () -> {
            Counted v = withFile();
            int last = 127 * 512 + 12 * 32 + 31;
            int lastTime = 23 * 2048 + 59 * 32 + 29;
            v.stamp(0, 0, last, lastTime);
            v.stamp(0, 1, last - 1, 0);
            v.stamp(0, 2, last - 2, lastTime - 1);
            Due.is("MADE", v.number(ROOT, 14, 4), last * 65536L + lastTime);
            Due.is("READ", v.number(ROOT, 18, 2), last - 1);
            Due.is("WRITTEN", v.number(ROOT, 22, 4), (last - 2) * 65536L + lastTime - 1);
            Due.is("the first cluster's halves stay", v.number(ROOT, 20, 2) + v.number(ROOT, 26, 2), 0);
            v.stamp(0, 2, 33, 0);
            Due.is("the first day", v.number(ROOT, 22, 4), 33 * 65536L);
            Due.throwsArgument("READ with a time", () -> v.stamp(0, 1, 33, 1));
            Due.throwsArgument("READ with a time below", () -> v.stamp(0, 1, 33, -1));
            Due.throwsArgument("no READ with a time", () -> v.stamp(0, 1, 0, 1));
            Due.is("READ stays", v.number(ROOT, 18, 2), last - 1);
        });
        Sentence.holds(21, "3 HUNDREDTHS become time", () -> {
            Counted v = withFile();
            v.stamp(0, 0, 33, 0);
            for (int time : new int[] {0, 1, 99, 100, 199}) {
                v.stamp(0, 3, 0, time);
                Due.is("hundredths", v.byteAt(ROOT, 13), time);
            }
            // June has a low byte that is no hour, and so have these minutes.
            v.stamp(0, 0, 6 * 32 + 1, 6 * 32);
            Due.is("hundredths of another MADE", v.stamp(0, 3, 0, 199), 0);
            for (int time : new int[] {200, 255, 256, -1, MIN, MAX, 65536}) {
                Due.throwsArgument("hundredths " + time, () -> v.stamp(0, 3, 0, time));
            }
            Due.is("they stay", v.byteAt(ROOT, 13), 199);
        });
        Sentence.holds(21, "4 READ ONLY is set if time is 1, or not if 0.", () -> {
            Counted v = withFile();
            v.poke(ROOT, 11, 2 + 4);
            v.stamp(0, 4, 0, 1);
            Due.is("set", v.byteAt(ROOT, 11), 1 + 2 + 4);
            v.stamp(0, 4, 0, 1);
            Due.is("set again", v.byteAt(ROOT, 11), 1 + 2 + 4);
            v.stamp(0, 4, 0, 0);
            Due.is("not set", v.byteAt(ROOT, 11), 2 + 4);
            v.directory("D");
            v.stamp(1, 4, 0, 1);
            Due.is("of a directory", v.byteAt(ROOT, 32 + 11), 49);
        });
        Sentence.holds(21, "(For 3 and 4 the day does not count.)", () -> {
            Counted v = withFile();
            v.stamp(0, 0, 33, 0);
            for (int day : new int[] {0, -1, 65536, MIN, MAX, 32}) {
                Due.is("hundredths with day " + day, v.stamp(0, 3, day, 7), 0);
                Due.is("read only with day " + day, v.stamp(0, 4, day, 1), 0);
            }
            Due.is("days stay", v.number(ROOT, 16, 4), 33);
        });
    }

    private static void stampRefused() {
        Sentence.holds(21, "IllegalArgumentException if it would not be as told then", () -> {
            Counted v = withFile();
            int[] wrongDays = {1, 32, 64 + 30, 13 * 32 + 1, 512 + 64 + 29, 120 * 512 + 64 + 29, 65535, 65536, 65536 + 33, -1, MIN, MAX};
            int[] wrongTimes = {30, 31, 60 * 32, 24 * 2048, 65535, 65536, -1, MIN, MAX};
            for (int what = 0; what <= 2; what++) {
                int of = what;
                for (int day : wrongDays) {
                    Due.throwsArgument(of + " with day " + day, () -> v.stamp(0, of, day, 0));
                }
                for (int time : wrongTimes) {
                    Due.throwsArgument(of + " with time " + time, () -> v.stamp(0, of, 33, time));
                }
            }
            Due.throwsArgument("no day of WRITTEN", () -> v.stamp(0, 2, 0, 0));
            Due.throwsArgument("no day of MADE, but a time", () -> v.stamp(0, 0, 0, 1));
            Due.throwsArgument("hundredths without a day of MADE", () -> v.stamp(0, 3, 0, 1));
            Due.is("no hundredths without one", v.stamp(0, 3, 0, 0), 0);
            Due.is("no day of MADE", v.stamp(0, 0, 0, 0), 0);
            Due.is("no day of READ", v.stamp(0, 1, 0, 0), 0);
            v.stamp(0, 0, 33, 0);
            v.stamp(0, 3, 0, 1);
            Due.throwsArgument("no day of MADE with hundredths", () -> v.stamp(0, 0, 0, 0));
            Due.is("nothing is changed", v.number(ROOT, 13, 5), 33L * (1 << 24) + 1);
            v.stamp(0, 3, 0, 0);
            Due.is("without them", v.stamp(0, 0, 0, 0), 0);
            Due.is("fault", v.fault(), 0);
        });
        Sentence.holds(21, "for another time with 4, or another what.", () -> {
            Counted v = withFile();
            for (int time : new int[] {-1, 2, 3, 256, 257, MIN, MAX}) {
                Due.throwsArgument("4 with " + time, () -> v.stamp(0, 4, 33, time));
            }
            for (int what : new int[] {-1, 5, 6, MIN, MAX}) {
                Due.throwsArgument("what " + what, () -> v.stamp(0, what, 33, 0));
                Due.throwsIndex("no such item comes first", () -> v.stamp(1, what, 33, 0));
            }
            Due.is("nothing is changed", v.byteAt(ROOT, 11), 32);
        });
    }

    private static void exceptions() {
        Sentence.holds(17, "Exceptions, in this order: IllegalStateException (there is no such volume, or it isn't sound)", () -> {
            Counted v = new Counted(256);
            Due.throwsState("make without a name", () -> v.make(true));
            Due.throwsState("write to none", () -> v.write(-1));
            Due.throwsState("grow none by -1", () -> v.grow(-1, -1, 0));
            Due.throwsState("cut none to -1", () -> v.cut(-1, -1));
            Due.throwsState("remove none", () -> v.remove(-1));
            Due.throwsState("stamp none with 9", () -> v.stamp(-1, 9, -1, -1));
            Due.throwsState("run for 2", () -> v.run(2, 0));
            Due.throwsState("about none, 9", () -> v.about(-1, 9));
            Due.throwsState("enter none", () -> v.enter(-1));
        });
        Sentence.holds(20, "IndexOutOfBoundsException (no such item here)", () -> {
            Counted v = withFile();
            for (int k : new int[] {-1, 1, MIN, MAX}) {
                Due.throwsIndex("write", () -> v.write(k));
                Due.throwsIndex("grow", () -> v.grow(k, -1, 0));
                Due.throwsIndex("cut", () -> v.cut(k, -1));
                Due.throwsIndex("remove", () -> v.remove(k));
                Due.throwsIndex("stamp", () -> v.stamp(k, 9, -1, -1));
            }
            v.grow(0, ALL_BYTES, 0);
            v.text("a");
            Due.throwsIndex("write, before there is no room", () -> v.write(1));
        });
        Sentence.holds(16, "IllegalArgumentException (something else is not as it must be), UnsupportedOperationException (there is no room).", () -> {
            Counted v = withFile();
            v.grow(0, ALL_BYTES, 0);
            v.name("f0");
            Due.throwsArgument("a name that is alike, before there is no room", () -> v.make(true));
            v.name("a.");
            Due.throwsArgument("no name, before there is no room", () -> v.make(true));
            Due.throwsArgument("too many bytes, before there is no room", () -> v.grow(0, 400001, 0));
            v.name("D");
            Due.throwsNoRoom("make", () -> v.make(true));
        });
        Sentence.holds(16, "What throws changes nothing but the tape (which is used up also by a call that throws).", () -> {
            Counted v = withFile();
            v.text("abc");
            Due.throwsIndex("write", () -> v.write(1));
            Due.is("the tape", v.end(0), 0);
            v.text("abc");
            Due.throwsArgument("make", () -> v.make(false));
            Due.is("the tape", v.end(0), 0);
            v.text("abc");
            Due.throwsArgument("format", () -> v.format(2, 9, 1, 0));
            Due.is("the tape", v.end(0), 0);
            v.text("ABC");
            Due.throwsArgument("format with wrong numbers", () -> v.format(2, 9, 3, 0));
            Due.is("the tape", v.end(0), 0);
            v.text("ABC");
            Due.throwsIndex("grow does not read it", () -> v.grow(1, 1, 0));
            Due.throwsArgument("stamp does not read it", () -> v.stamp(0, 9, 0, 0));
            Due.throwsArgument("run does not read it", () -> v.run(2, 64));
            Due.is("the tape", v.end(0), 3);
            Due.is("fault", v.fault(), 0);
            Due.is("items", v.items(), 1);
            v.poke(TABLE, 0, 0);
            Due.throwsState("make of a volume that is not sound", () -> v.make(false));
            Due.is("the tape", v.end(0), 0);
        });
        Sentence.holds(17, "used up by the call that reads it, whatever comes of it.", () -> {
            Counted v = new Counted(256);
            v.text("ABC");
            Due.throwsState("write", () -> v.write(0));
            Due.is("the tape", v.end(0), 0);
            v.text("ABC");
            Due.throwsState("make", () -> v.make(false));
            Due.is("the tape", v.end(0), 0);
            v.text("ABC");
            Due.is("format", v.format(2, 9, 1, 0), 123);
            Due.is("the tape", v.end(0), 0);
            v.file("F");
            Due.is("the tape", v.end(0), 0);
            v.grow(0, ALL_BYTES, 0);
            v.text("ABC");
            Due.throwsNoRoom("write", () -> v.write(0));
            Due.is("the tape", v.end(0), 0);
        });
    }
}
