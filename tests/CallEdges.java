/** The edges that the promises 1 to 15 name. */
final class CallEdges {
    private static final int MIN = Integer.MIN_VALUE;
    private static final int MAX = Integer.MAX_VALUE;
    private static final String BYTES_OF_SHORT_NAMES = "ABCDEFGHIJKLMNOPQRSTUVWXYZ0123456789!#$%&'()-@^_`{}~";

    private CallEdges() {
    }

    static void all() {
        newObject();
        feed();
        end();
        clear();
        format();
        formatRefused();
        poke();
        kind();
        fault();
        byteAt();
        items();
        letter();
        about();
        content();
        enter();
        up();
    }

    /** 256 sectors: C = 2, V = 9, one table of one sector, A = 10, K = 123; nothing in the root. */
    private static Counted empty() {
        Counted v = new Counted(256);
        v.format(2, 9, 1, 0);
        return v;
    }

    private static Counted withFile() {
        Counted v = empty();
        v.file("F");
        return v;
    }

    private static void sectors(int asked, int due) {
        Counted v = new Counted(asked);
        Due.is("the last byte of " + asked, v.byteAt(due - 1, 511), 0);
        Due.is("behind the last sector of " + asked, v.byteAt(due, 0), -1);
        v.format(8, 8, 1, 0);
        Due.is("sectors of " + asked + " in sector 0", v.number(0, 32, 4), due);
    }

    private static void newObject() {
        Sentence.holds(1, "N is sectors", () -> {
            sectors(256, 256);
            sectors(258, 258);
            sectors(1022, 1022);
            sectors(1024, 1024);
        });
        Sentence.holds(1, "256 if that is less", () -> {
            for (int asked : new int[] {255, 254, 1, 0, -1, MIN}) {
                sectors(asked, 256);
            }
        });
        Sentence.holds(1, "1024 if it is more", () -> {
            for (int asked : new int[] {1025, 1026, 65536, MAX}) {
                sectors(asked, 1024);
            }
        });
        Sentence.holds(1, "and one less if it is odd.", () -> {
            sectors(257, 256);
            sectors(259, 258);
            sectors(1023, 1022);
        });
        Sentence.holds(1, "THE DISK has N SECTORS of 512 bytes, all 0 at first.", () -> {
            Counted v = new Counted(300);
            for (int sector : new int[] {0, 1, 2, 7, 150, 299}) {
                Due.is("first byte of " + sector, v.byteAt(sector, 0), 0);
                Due.is("last byte of " + sector, v.byteAt(sector, 511), 0);
                Due.is("behind it", v.byteAt(sector, 512), -1);
            }
        });
        Sentence.holds(1, "An object is used for at most 512 calls after it has been made", () -> {
            Counted v = withFile();
            while (v.callsLeft() > 3) {
                v.grow(0, 3, 1);
            }
            int size = v.grow(0, 1, 77);
            Due.is("call 511", v.content(0, size - 1), 77);
            Due.is("call 512", v.content(0, size), -1);
            Due.is("calls left", v.callsLeft(), 0);
        });
    }

    private static void feed() {
        Sentence.holds(2, "Puts twenty bytes ready, those of a first, the highest of each first.", () -> {
            Counted v = withFile();
            v.feed(0x80010203, 0x04050607, 0x08090a0b, 0x0c0d0e0f, 0x101112ff);
            v.end(20);
            v.write(0);
            for (int i = 0; i < 20; i++) {
                Due.is("byte " + i, v.content(0, i), i == 0 ? 128 : i == 19 ? 255 : i);
            }
            v.feed(MIN, MAX, -1, 1, 0);
            v.end(20);
            v.write(0);
            int[] due = {128, 0, 0, 0, 127, 255, 255, 255, 255, 255, 255, 255, 0, 0, 0, 1, 0, 0, 0, 0};
            for (int i = 0; i < 20; i++) {
                Due.is("byte " + (20 + i), v.content(0, 20 + i), due[i]);
            }
        });
        Sentence.holds(2, "(They are 0 at first, and behind each end() that answers a number.)", () -> {
            Counted v = withFile();
            Due.is("end(20) without a feed", new Counted(256).end(20), 20);
            v.clear();
            v.feed(0x11111111, 0x11111111, 0x11111111, 0x11111111, 0x11111111);
            v.end(1);
            v.end(20);
            v.feed(0x22222222, 0x22222222, 0x22222222, 0x22222222, 0x22222222);
            Due.is("end(0) is a number", v.end(0), 21);
            v.end(20);
            v.feed(0x33000000, 0, 0, 0, 0);
            Due.is("end(21) is none", v.end(21), -1);
            v.end(1);
            Due.is("write", v.write(0), 42);
            for (int i = 0; i < 42; i++) {
                Due.is("byte " + i, v.content(0, i), i == 0 ? 0x11 : i == 41 ? 0x33 : 0);
            }
        });
        Sentence.holds(2, "They are 0 at first", () -> {
            Counted v = empty();
            v.feed(0x00460000, 0, 0, 0, 0);
            v.end(2);
            v.make(false);
            v.end(20);
            v.write(0);
            for (int i = 0; i < 20; i++) {
                Due.is("byte " + i, v.content(0, i), 0);
            }
            Counted w = new Counted(256);
            Due.is("end(11) without a feed", w.end(11), 11);
            Due.throwsArgument("a label of zeros", () -> w.format(2, 9, 1, 0));
        });
    }

    private static void end() {
        Sentence.holds(3, "The first n of the bytes that are ready come to the tape: how many it has.", () -> {
            Counted v = withFile();
            Due.is("none", v.end(0), 0);
            v.feed(0x01020304, 0, 0, 0, 0);
            Due.is("one", v.end(1), 1);
            v.feed(0x11121314, 0x15161718, 0x191a1b1c, 0x1d1e1f20, 0x21222324);
            Due.is("twenty", v.end(20), 21);
            v.feed(0x31000000, 0, 0, 0, 0);
            Due.is("none more", v.end(0), 21);
            Due.is("write", v.write(0), 21);
            Due.is("the first", v.content(0, 0), 1);
            Due.is("the second", v.content(0, 1), 0x11);
            Due.is("the last", v.content(0, 20), 0x24);
        });
        Sentence.holds(3, "NONE, and nothing comes, if n is not 0 .. 20", () -> {
            Counted v = withFile();
            v.feed(0x41424344, 0x45464748, 0, 0, 0);
            for (int n : new int[] {-1, 21, MIN, MAX, -20, 256, 1 << 16}) {
                Due.is("end(" + n + ")", v.end(n), -1);
            }
            Due.is("nothing came, and the bytes stay", v.end(8), 8);
            Due.is("end(-1) of eight", v.end(-1), -1);
            Due.is("write", v.write(0), 8);
            Due.is("first byte", v.content(0, 0), 0x41);
            Due.is("last byte", v.content(0, 7), 0x48);
        });
        Sentence.holds(3, "or it would have more than 4096.", () -> {
            Counted v = withFile();
            for (int i = 1; i <= 204; i++) {
                Due.is("end(20)", v.end(20), 20 * i);
            }
            v.feed(0, 0, 0, 0x00000055, 0x66000000);
            Due.is("4097", v.end(17), -1);
            Due.is("4100", v.end(20), -1);
            Due.is("4096", v.end(16), 4096);
            Due.is("one more", v.end(1), -1);
            Due.is("none more", v.end(0), 4096);
            Due.is("write", v.write(0), 4096);
            Due.is("the last byte", v.content(0, 4095), 0x55);
        });
        Sentence.holds(3, "THE TAPE: at most 4096 bytes", () -> {
            Counted v = withFile();
            for (int i = 0; i < 204; i++) {
                v.end(20);
            }
            Due.is("4095", v.end(15), 4095);
            Due.is("4097", v.end(2), -1);
            Due.is("4096", v.end(1), 4096);
            Due.is("all of them are written", v.write(0), 4096);
            Due.is("then there is room again", v.end(20), 20);
        });
    }

    private static void clear() {
        Sentence.holds(4, "The tape is empty (the bytes that are ready stay).", () -> {
            Counted v = withFile();
            v.clear();
            Due.is("an empty one", v.end(0), 0);
            for (int i = 0; i < 205; i++) {
                v.end(i < 204 ? 20 : 16);
            }
            Due.is("a full one", v.end(0), 4096);
            v.feed(0x61626364, 0, 0, 0, 0x00000065);
            v.clear();
            Due.is("twenty, which stayed", v.end(20), 20);
            Due.is("write", v.write(0), 20);
            Due.is("the first", v.content(0, 0), 0x61);
            Due.is("the last", v.content(0, 19), 0x65);
        });
    }

    private static void format() {
        Sentence.holds(5, "All sectors become 0, then a sound table volume is made, with nothing in its root, cluster 2: how many clusters.", () -> {
            Counted v = new Counted(256);
            v.poke(3, 0, 9);
            v.poke(5, 511, 9);
            v.poke(66, 0, 9);
            v.poke(73, 511, 9);
            Due.is("the least: (256 - 64 - 2) / 8", v.format(8, 64, 2, 0), 23);
            Due.is("fault", v.fault(), 0);
            Due.is("items", v.items(), 0);
            Due.is("what was there is gone", v.byteAt(3, 0) + v.byteAt(5, 511) + v.byteAt(66, 0) + v.byteAt(73, 511), 0);
            Counted w = new Counted(1024);
            Due.is("the most: (1024 - 8 - 4) / 2", w.format(2, 8, 1, 0), 506);
            Due.is("fault", w.fault(), 0);
            Due.is("a volume that can be turned", w.format(2, 8, 2, 0), 504);
            Due.is("run", w.run(0, 256), 0);
            Due.is("over an inode volume", w.format(4, 9, 1, 0), 253);
            Due.is("kind", w.kind(), 1);
            Due.is("fault", w.fault(), 0);
            Due.is("superblock and mark are gone", w.number(2, 56, 2) + w.number(7, 0, 4), 0);
        });
        Sentence.holds(5, "Its label's short name is the tape's bytes (none: no label) with blanks behind them, slot 0 of the root", () -> {
            Counted v = empty();
            Due.is("none: no label", v.textAt(10, 0, 12), "\0\0\0\0\0\0\0\0\0\0\0\0");
            String[] labels = {"A", "ELEVEN BYTE", "TEN BYTES!", "A B", "A  "};
            for (String label : labels) {
                v.text(label);
                v.format(2, 9, 1, 0);
                Due.is("label " + label, v.textAt(10, 0, 12), (label + "          ").substring(0, 11) + "\b");
                Due.is("slot 1", v.byteAt(10, 32), 0);
            }
            v.clear();
            v.format(2, 9, 1, 0);
            Due.is("none again", v.byteAt(10, 0), 0);
        });
        Sentence.holds(5, "slot 0 of the root: at 11 (1) 8, WRITTEN 1 January 1980, 0:00, else 0.", () -> {
            Counted v = new Counted(256);
            v.text("LABEL");
            v.format(2, 9, 1, 0);
            Due.is("bits", v.byteAt(10, 11), 8);
            Due.is("day of WRITTEN", v.number(10, 24, 2), 33);
            Due.is("else", v.number(10, 12, 8) + v.number(10, 20, 4) + v.number(10, 26, 6), 0);
        });
        Sentence.holds(5, "At 3 of sector 0 stand eight blanks", () -> {
            Counted v = empty();
            Due.is("before, the blanks, behind", v.textAt(0, 0, 12), "\0\0\0        \0");
        });
        Sentence.holds(5, "sector 1 has at 0 (4) 1096897106, 484 (4) 1631679090, 488 (4) and 492 (4) 4294967295, 508 (4) 2857697280;"
                + " sector 6 is as sector 0, in which all else is 0", () -> {
            Counted v = empty();
            Due.is("at 0", v.number(1, 0, 4), 1096897106);
            Due.is("before 484", v.number(1, 480, 4), 0);
            Due.is("at 484", v.number(1, 484, 4), 1631679090);
            Due.is("at 488", v.number(1, 488, 4), 4294967295L);
            Due.is("at 492", v.number(1, 492, 4), 4294967295L);
            Due.is("behind it", v.number(1, 496, 4), 0);
            Due.is("at 508", v.number(1, 508, 4), 2857697280L);
            for (int at = 0; at < 72; at++) {
                Due.is("sector 6 at " + at, v.byteAt(6, at), v.byteAt(0, at));
            }
            int[][] numbers = {{52, 8, 0}, {24, 8, 0}, {40, 4, 0}, {71, 8, 0}, {502, 8, 0}, {44, 4, 2}, {48, 2, 1}, {50, 2, 6}, {510, 2, 43605}};
            for (int[] n : numbers) {
                Due.is("sector 0 at " + n[0], v.number(0, n[0], n[1]), n[2]);
                Due.is("sector 6 at " + n[0], v.number(6, n[0], n[1]), n[2]);
            }
        });
        Sentence.holds(5, "at 67 (4) id", () -> {
            for (int id : new int[] {0, 1, -1, MIN, MAX, 0x01020304}) {
                Counted v = new Counted(256);
                v.format(2, 9, 1, id);
                Due.is("id " + id, v.number(0, 67, 4), id & 0xffffffffL);
                Due.is("before and behind it", v.byteAt(0, 66) + v.byteAt(0, 71), 0);
            }
        });
        Sentence.holds(5, "Z is the least that does", () -> {
            least(262, 2, 9, 1, 1, 126);
            least(264, 2, 9, 1, 2, 126);
            least(266, 2, 9, 1, 2, 127);
            least(1024, 2, 8, 1, 4, 506);
            least(1024, 8, 8, 1, 1, 126);
            least(1024, 8, 8, 2, 1, 126);
            least(1024, 4, 8, 2, 2, 253);
            least(776, 2, 8, 1, 3, 382);
            least(780, 2, 8, 1, 4, 384);
        });
    }

    private static void least(int sectors, int cluster, int before, int tables, int z, int clusters) {
        Counted v = new Counted(sectors);
        String what = "format(" + cluster + ", " + before + ", " + tables + ") of " + sectors;
        Due.is(what, v.format(cluster, before, tables, 0), clusters);
        Due.is("sectors of a table, " + what, v.number(0, 36, 4), z);
        Due.is("fault, " + what, v.fault(), 0);
    }

    private static void formatRefused() {
        Sentence.holds(5, "IllegalArgumentException: there is none such with these numbers", () -> {
            int[][] wrong = {{1, 8, 1}, {3, 8, 1}, {5, 8, 1}, {6, 8, 1}, {7, 8, 1}, {9, 8, 1}, {16, 8, 1}, {0, 8, 1}, {-2, 8, 1},
                {MIN, 8, 1}, {MAX, 8, 1}, {258, 8, 1}, {2, 7, 1}, {2, 65, 1}, {2, 0, 1}, {2, -8, 1}, {2, MIN, 1}, {2, MAX, 1},
                {2, 8, 0}, {2, 8, 3}, {2, 8, -1}, {2, 8, MIN}, {2, 8, MAX}, {2, 8 + 65536, 1}, {2, 8, 257}};
            Counted v = empty();
            v.poke(10, 500, 55);
            for (int[] w : wrong) {
                Due.throwsArgument("format(" + w[0] + ", " + w[1] + ", " + w[2] + ")", () -> v.format(w[0], w[1], w[2], 0));
                Due.is("nothing is changed", v.byteAt(10, 500), 55);
            }
            int[][] right = {{2, 8, 1}, {4, 8, 1}, {8, 8, 1}, {2, 64, 1}, {2, 8, 2}, {8, 64, 2}};
            for (int[] r : right) {
                Due.is("format(" + r[0] + ", " + r[1] + ", " + r[2] + ")", v.format(r[0], r[1], r[2], 0),
                        (256 - r[1] - r[2]) / r[0]);
            }
        });
        Sentence.holds(5, "or the tape is no label: more than 11 bytes", () -> {
            Counted v = empty();
            for (int n : new int[] {12, 13, 40}) {
                v.text("A".repeat(n));
                Due.throwsArgument("a label of " + n, () -> v.format(2, 9, 1, 0));
                Due.is("the tape is used up", v.end(0), 0);
            }
            v.text("A".repeat(11));
            Due.is("a label of 11", v.format(2, 9, 1, 0), 123);
            for (int i = 0; i < 204; i++) {
                v.end(20);
            }
            Due.throwsArgument("a label of 4080", () -> v.format(2, 9, 1, 0));
            Due.is("the label before stays", v.byteAt(10, 10), 'A');
        });
        Sentence.holds(5, "or one that may not stand there.", () -> {
            for (int b = 0; b < 256; b++) {
                Counted v = new Counted(256);
                boolean fits = BYTES_OF_SHORT_NAMES.indexOf(b) >= 0;
                v.text("" + (char) b);
                Due.is("a label of byte " + b, Pair.outcome(() -> v.format(2, 9, 1, 0)), answer(fits));
                v.text("A" + (char) b);
                Due.is("a label with byte " + b, Pair.outcome(() -> v.format(2, 9, 1, 0)), answer(fits || b == ' '));
                v.text("ABCDEFGHIJ" + (char) b);
                Due.is("a label that ends with byte " + b, Pair.outcome(() -> v.format(2, 9, 1, 0)), answer(fits || b == ' '));
            }
        });
        Sentence.holds(5, "(Runs that were told by fail() stay.)", () -> {
            Counted v = empty();
            for (int i = 0; i < 16; i++) {
                v.fail(0, 0);
            }
            v.format(2, 9, 1, 0);
            Due.is("still sixteen", v.fail(0, 0), false);
            Due.throwsArgument("a wrong format", () -> v.format(3, 9, 1, 0));
            Due.is("still sixteen", v.fail(0, 0), false);
            v.clear();
            Due.is("run", v.run(0, 64), 0);
            Due.is("they are gone then", v.fail(0, 0), true);
        });
    }

    private static String answer(boolean fits) {
        return fits ? "123" : "throws.IllegalArgumentException";
    }

    private static void poke() {
        Sentence.holds(6, "Byte at of a sector becomes value (its lowest eight bits): true.", () -> {
            Counted v = new Counted(256);
            int[][] values = {{0, 0}, {1, 1}, {127, 127}, {128, 128}, {255, 255}, {256, 0}, {511, 255}, {-1, 255}, {-128, 128}, {-256, 0},
                {MIN, 0}, {MAX, 255}, {0x12345678, 0x78}};
            for (int[] x : values) {
                Due.is("poke " + x[0], v.poke(100, 5, x[0]), true);
                Due.is("it is", v.byteAt(100, 5), x[1]);
            }
            int[][] corners = {{0, 0}, {0, 511}, {255, 0}, {255, 511}};
            for (int[] c : corners) {
                Due.is("poke", v.poke(c[0], c[1], 7), true);
                Due.is("it is", v.byteAt(c[0], c[1]), 7);
            }
            Due.is("the byte before stays", v.byteAt(100, 4), 0);
            Due.is("the byte behind stays", v.byteAt(100, 6), 0);
        });
        Sentence.holds(6, "False if there is no such byte", () -> {
            Counted v = new Counted(256);
            int[][] none = {{-1, 0}, {256, 0}, {0, -1}, {0, 512}, {255, 512}, {1, -512}, {-1, 512}, {MIN, 0}, {MAX, 0}, {0, MIN}, {0, MAX},
                {1 << 23, 0}, {100, 513}};
            for (int[] n : none) {
                Due.is("poke(" + n[0] + ", " + n[1] + ")", v.poke(n[0], n[1], 9), false);
            }
            Due.is("nothing comes to the sector behind", v.byteAt(101, 0) + v.byteAt(101, 1) + v.byteAt(1, 0), 0);
        });
        Sentence.holds(6, "in the sectors 2 and 7", () -> {
            for (int i = 0; i < 2; i++) {
                Counted v = new Counted(256);
                if (i == 1) {
                    v.format(2, 9, 1, 0);
                }
                for (int sector = 0; sector < 10; sector++) {
                    boolean due = sector != 2 && sector != 7;
                    Due.is("first byte of " + sector, v.poke(sector, 0, 66), due);
                    Due.is("last byte of " + sector, v.poke(sector, 511, 66), due);
                }
                Due.is("they stay 0", v.byteAt(2, 0) + v.byteAt(2, 511) + v.byteAt(7, 0) + v.byteAt(7, 511), 0);
            }
        });
        Sentence.holds(6, "and behind any run (that did not throw; also one that was refused or did nothing) until the next format.", () -> {
            Counted v = new Counted(400);
            Due.throwsState("a run without a volume", () -> v.run(0, 128));
            Due.is("poke behind it", v.poke(1, 9, 1), true);
            v.format(2, 8, 2, 0);
            Due.throwsArgument("a run for nothing", () -> v.run(2, 128));
            pokeIs(v, true, "a run that throws");
            Due.is("a run that is refused", v.run(0, 63), 12);
            pokeIs(v, false, "a run that is refused");
            Due.throwsArgument("a wrong format", () -> v.format(1, 8, 2, 0));
            pokeIs(v, false, "a format that throws");
            v.format(2, 8, 2, 0);
            pokeIs(v, true, "format");
            Due.is("a run that does nothing", v.run(1, 128), 0);
            pokeIs(v, false, "a run that did nothing");
            v.format(2, 8, 2, 0);
            pokeIs(v, true, "format");
            Due.is("a run", v.run(0, 128), 0);
            pokeIs(v, false, "a run to an inode volume");
            Due.is("back", v.run(1, 128), 0);
            pokeIs(v, false, "a run back");
            v.file("F");
            pokeIs(v, false, "a change of the table volume");
            v.format(2, 8, 2, 0);
            pokeIs(v, true, "format");
        });
    }

    private static void pokeIs(Counted v, boolean due, String behind) {
        int was = v.byteAt(1, 9);
        Due.is("poke behind " + behind, v.poke(1, 9, was + 1), due);
        Due.is("its byte", v.byteAt(1, 9), due ? was + 1 : was);
    }

    private static void kind() {
        Sentence.holds(7, "2 an inode volume (what a run has left); else 1 a table volume, 0 none (sector 0 is not as told).", () -> {
            Counted v = new Counted(400);
            Due.is("a new object", v.kind(), 0);
            v.format(2, 8, 2, 0);
            Due.is("a new volume", v.kind(), 1);
            v.poke(0, 510, 0);
            Due.is("sector 0 is not as told", v.kind(), 0);
            v.poke(0, 510, 0x55);
            v.poke(8, 0, 0);
            Due.is("not sound, but sector 0 is as told", v.kind(), 1);
            v.poke(8, 0, 248);
            v.run(0, 1);
            Due.is("a refused run", v.kind(), 1);
            v.run(0, 128);
            Due.is("a run", v.kind(), 2);
            v.run(0, 256);
            Due.is("a run that does nothing", v.kind(), 2);
            Due.throwsArgument("a wrong run", () -> v.run(-1, 128));
            Due.is("it stays", v.kind(), 2);
            v.run(1, 128);
            Due.is("back", v.kind(), 1);
        });
    }

    private static void fault() {
        Sentence.holds(8, "Of a table volume its fault, 0 if it is sound.", () -> {
            Counted v = empty();
            Due.is("sound", v.fault(), 0);
            v.poke(9, 0, 0);
            Due.is("not sound", v.fault(), 2);
            v.poke(9, 0, 248);
            Due.is("sound again", v.fault(), 0);
        });
        Sentence.holds(8, "directories are as told and a tree, links fit (so it is 0).", () -> {
            Counted v = new Counted(400);
            v.format(2, 8, 2, 0);
            v.directory("D");
            v.run(0, 128);
            Due.is("an inode volume", v.fault(), 0);
            v.fail(1, 20);
            v.run(0, 128);
            Due.is("behind a cut run", v.fault(), 0);
        });
        Sentence.holds(8, "1 if there is none.", () -> {
            Counted v = new Counted(256);
            Due.is("a new object", v.fault(), 1);
            v.format(2, 9, 1, 0);
            v.poke(0, 11, 1);
            Due.is("sector 0 is not as told", v.fault(), 1);
        });
    }

    private static void byteAt() {
        Sentence.holds(9, "A byte as it stands on the disk; NONE if there is none such", () -> {
            Counted v = new Counted(256);
            v.poke(0, 0, 200);
            v.poke(255, 511, 201);
            Due.is("the first", v.byteAt(0, 0), 200);
            Due.is("the last", v.byteAt(255, 511), 201);
            int[][] none = {{-1, 0}, {256, 0}, {0, -1}, {0, 512}, {254, 1023}, {1, -512}, {MIN, 0}, {MAX, 0}, {0, MIN}, {0, MAX},
                {1 << 23, 0}};
            for (int[] n : none) {
                Due.is("byteAt(" + n[0] + ", " + n[1] + ")", v.byteAt(n[0], n[1]), -1);
            }
            v.format(2, 9, 1, 0);
            for (int[] n : none) {
                Due.is("byteAt(" + n[0] + ", " + n[1] + ") of a volume", v.byteAt(n[0], n[1]), -1);
            }
        });
        Sentence.holds(9, "of a table volume also for those of clusters that are free (by the first table)", () -> {
            Counted v = new Counted(256);
            v.format(2, 8, 2, 0);
            // C = 2, two tables of one sector, A = 10: cluster 2 has the sectors 10 and 11, cluster 124 the last two.
            Due.is("before the clusters", v.byteAt(9, 511), 0);
            Due.is("the root's first byte", v.byteAt(10, 0), 0);
            Due.is("the root's last byte", v.byteAt(11, 511), 0);
            Due.is("the first free one", v.byteAt(12, 0), -1);
            Due.is("the last one", v.byteAt(255, 511), -1);
            v.poke(9, 4 * 3, 255);
            Due.is("the second table has no say", v.byteAt(12, 0), -1);
            v.poke(8, 4 * 3, 1);
            Due.is("1 is not free", v.byteAt(12, 0), 0);
            Due.is("nor the last byte", v.byteAt(13, 511), 0);
            Due.is("the next one is", v.byteAt(14, 0), -1);
            v.poke(8, 4 * 3, 0);
            v.poke(8, 4 * 3 + 3, 0xf0);
            Due.is("the highest four bits do not count", v.byteAt(12, 0), -1);
            v.poke(8, 4 * 3 + 3, 0x08);
            Due.is("bit 27 does", v.byteAt(12, 0), 0);
            v.poke(8, 4 * 124, 255);
            Due.is("the last cluster", v.byteAt(255, 511), 0);
            v.pokeNumber(8, 4 * 2, 4, 0);
            Due.is("the first cluster, if it is free", v.byteAt(10, 0), -1);
            Due.is("its last byte", v.byteAt(11, 511), -1);
            Due.is("before it", v.byteAt(9, 511), 0);
            v.poke(0, 510, 0);
            Due.is("without a volume all are shown", v.byteAt(14, 0), 0);
        });
        Sentence.holds(9, "and of sectors behind the last cluster", () -> {
            Counted v = new Counted(256);
            // C = 8, A = 10: 30 clusters up to sector 249, six sectors behind them.
            Due.is("clusters", v.format(8, 9, 1, 0), 30);
            v.poke(9, 4 * 31, 255);
            v.poke(9, 4 * 32, 255);
            Due.is("the last cluster's last byte", v.byteAt(249, 511), 0);
            Due.is("the first sector behind", v.byteAt(250, 0), -1);
            Due.is("the last sector", v.byteAt(255, 511), -1);
        });
        Sentence.holds(9, "of an inode volume also for those of blocks that aren't used, but for block 0.", () -> {
            Counted v = new Counted(300);
            v.format(8, 9, 1, 0x01020304);
            v.file("F");
            v.grow(0, 1025, 0);
            Due.is("run", v.run(0, 64), 0);
            Due.is("block 0, first byte behind the blanks", v.byteAt(0, 11), 0);
            Due.is("block 0, its last byte", v.byteAt(1, 511), 0xaa);
            Due.is("block 1", v.number(2, 56, 2), 61267);
            // The file has cluster 3, sectors 18 to 25: its second block is used, the third is not.
            Due.is("a file's last block", v.byteAt(21, 511), 0);
            Due.is("the block behind it", v.byteAt(22, 0), -1);
            Due.is("the last block of its cluster", v.byteAt(25, 511), -1);
            Due.is("the last block", v.byteAt(299, 511), -1);
            Due.is("behind it", v.byteAt(300, 0), -1);
        });
    }

    private static void items() {
        Sentence.holds(10, "How many items are here (in an inode volume with the record).", () -> {
            Counted v = new Counted(400);
            v.text("LABEL");
            v.format(2, 8, 2, 0);
            Due.is("none, though there is a label", v.items(), 0);
            v.directory("D");
            Due.is("one", v.items(), 1);
            v.enter(0);
            Due.is("none, though there are two slots", v.items(), 0);
            v.run(0, 128);
            Due.is("with the record", v.items(), 2);
            v.enter(0);
            Due.is("no record but in the root", v.items(), 0);
            v.run(1, 128);
            Due.is("without it again", v.items(), 1);
            v.remove(0);
            v.run(0, 128);
            Due.is("the record alone", v.items(), 1);
        });
        Sentence.holds(10, "Calls that read want a volume, sound or not (of a table volume that isn't sound there is no tree: they throw).", () -> {
            Counted v = new Counted(256);
            Due.throwsState("items without a volume", () -> v.items());
            Due.is("kind", v.kind(), 0);
            v.format(2, 9, 1, 0);
            v.poke(9, 0, 0);
            Due.throwsState("items of one that is not sound", () -> v.items());
            Due.is("byteAt of one that is not sound", v.byteAt(9, 4), 255);
            Due.is("kind of one that is not sound", v.kind(), 1);
            Due.is("plan of one that is not sound", v.plan(64, 0), 2);
        });
    }

    private static void letter() {
        Sentence.holds(11, "Byte i of the name of item k here, as in an inode volume; NONE if there is none such.", () -> {
            Counted v = new Counted(400);
            v.format(2, 8, 2, 0);
            v.file("A");
            v.file("~\u0080\u07ff\u0800\ufffd");
            int[] due = {0x7e, 0xc2, 0x80, 0xdf, 0xbf, 0xe0, 0xa0, 0x80, 0xef, 0xbf, 0xbd};
            for (int way = 0; way < 2; way++) {
                Due.is("before the first", v.letter(0, -1), -1);
                Due.is("the first, which is the last", v.letter(0, 0), 'A');
                Due.is("behind the last", v.letter(0, 1), -1);
                for (int i = 0; i < due.length; i++) {
                    Due.is("letter " + i, v.letter(1, i), due[i]);
                }
                Due.is("behind the last", v.letter(1, due.length), -1);
                Due.is("far before", v.letter(1, MIN), -1);
                Due.is("far behind", v.letter(1, MAX), -1);
                v.run(0, 128);
            }
            Due.is("the record's last letter", v.letter(2, 6), 'd');
            Due.is("behind it", v.letter(2, 7), -1);
        });
        Sentence.holds(11, "units in one byte below 128, in two below 2048, else in three", () -> {
            Counted v = new Counted(256);
            v.format(2, 9, 1, 0);
            v.file("\u4e2d".repeat(255));
            Due.is("the last of 765 bytes", v.letter(0, 764), 0xad);
            Due.is("behind it", v.letter(0, 765), -1);
            v.file("\u0080".repeat(255));
            Due.is("the last of 510 bytes", v.letter(1, 509), 0x80);
            Due.is("behind it", v.letter(1, 510), -1);
            v.file("~".repeat(255));
            Due.is("the last of 255 bytes", v.letter(2, 254), '~');
            Due.is("behind it", v.letter(2, 255), -1);
        });
        Sentence.holds(11, "IndexOutOfBoundsException (no such item here)", () -> {
            Counted v = new Counted(400);
            v.format(2, 8, 2, 0);
            noItem(v, 0);
            v.directory("D");
            noItem(v, 1);
            v.enter(0);
            noItem(v, 0);
            v.run(0, 128);
            noItem(v, 2);
            v.enter(0);
            noItem(v, 0);
        });
    }

    /** All calls that read an item, just before the first one and just behind the last one. */
    private static void noItem(Counted v, int count) {
        for (int k : new int[] {-1, count, MIN, MAX}) {
            Due.throwsIndex("letter(" + k + ")", () -> v.letter(k, 0));
            Due.throwsIndex("about(" + k + ")", () -> v.about(k, 0));
            Due.throwsIndex("content(" + k + ")", () -> v.content(k, 0));
            Due.throwsIndex("enter(" + k + ")", () -> v.enter(k));
        }
    }

    private static void about() {
        Sentence.holds(12, "0 whether it is a directory (1 or 0), 1 whether it is READ ONLY", () -> {
            Counted v = new Counted(400);
            v.format(2, 8, 2, 0);
            v.file("F");
            v.directory("D");
            v.stamp(1, 4, 0, 1);
            for (int way = 0; way < 2; way++) {
                Due.is("a file", v.about(0, 0) + 10 * v.about(0, 1), 0);
                Due.is("a directory, read only", v.about(1, 0) + 10 * v.about(1, 1), 11);
                v.run(0, 128);
            }
            Due.is("the record", v.about(2, 0) + 10 * v.about(2, 1), 10);
        });
        Sentence.holds(12, "READ, MADE, WRITTEN in seconds as in an inode (lowest 32 bits, as a number below 2^32)", () -> {
            Counted v = withFile();
            int day = 126 * 512 + 2 * 32 + 7;
            int time = 6 * 2048 + 28 * 32 + 7;
            v.stamp(0, 2, day, time);
            Due.is("7 February 2106, 6:28:14", v.about(0, 4), 4294967294L);
            v.stamp(0, 0, day, time);
            v.stamp(0, 3, 0, 100);
            Due.is("a second more", v.about(0, 3), 4294967295L);
            v.stamp(0, 2, day, time + 1);
            Due.is("2^32", v.about(0, 4), 0);
            v.stamp(0, 0, day, time + 1);
            Due.is("2^32 + 1", v.about(0, 3), 1);
            v.stamp(0, 1, day, 0);
            Due.is("READ at 0:00", v.about(0, 2), 4294944000L);
            v.stamp(0, 1, day + 1, 0);
            Due.is("READ a day later", v.about(0, 2), 4295030400L - 4294967296L);
            v.stamp(0, 2, 58 * 512 + 32 + 19, 3 * 2048 + 14 * 32 + 4);
            Due.is("2^31, 19 January 2038, 3:14:08", v.about(0, 4), 2147483648L);
            v.stamp(0, 2, 127 * 512 + 12 * 32 + 31, 23 * 2048 + 59 * 32 + 29);
            Due.is("the last time", v.about(0, 4), 4354819198L - 4294967296L);
            v.stamp(0, 2, 33, 0);
            Due.is("the first time", v.about(0, 4), 315532800L);
        });
        Sentence.holds(12, "(with leap years as in use: by 4, not by 100, but by 400)", () -> {
            Counted v = withFile();
            // Year, month, day, and the days from 1 January 1970 on.
            int[][] all = {{1980, 2, 29, 3711}, {1980, 3, 1, 3712}, {1980, 12, 31, 4017}, {1981, 1, 1, 4018}, {1981, 2, 28, 4076},
                {1981, 3, 1, 4077}, {2000, 2, 29, 11016}, {2000, 3, 1, 11017}, {2000, 12, 31, 11322}, {2001, 1, 1, 11323}, {2001, 3, 1, 11382},
                {2100, 2, 28, 47540}, {2100, 3, 1, 47541}, {2101, 1, 1, 47847}, {2104, 2, 29, 49001}, {2104, 3, 1, 49002}};
            for (int[] x : all) {
                v.stamp(0, 2, 512 * (x[0] - 1980) + 32 * x[1] + x[2], 0);
                Due.is(x[0] + "-" + x[1] + "-" + x[2], v.about(0, 4), 86400L * x[3]);
            }
        });
        Sentence.holds(12, "5 its size (of a directory 0 in a table volume).", () -> {
            Counted v = new Counted(400);
            v.format(2, 8, 2, 0);
            v.file("F");
            v.file("G");
            v.grow(1, 1025, 0);
            v.directory("D");
            Due.is("an empty file", v.about(0, 5), 0);
            Due.is("a file", v.about(1, 5), 1025);
            Due.is("a directory", v.about(2, 5), 0);
            v.run(0, 128);
            Due.is("an empty file", v.about(0, 5), 0);
            Due.is("a file", v.about(1, 5), 1025);
            Due.is("a directory", v.about(2, 5), 1024);
        });
        Sentence.holds(12, "IllegalArgumentException for another what.", () -> {
            Counted v = new Counted(400);
            v.format(2, 8, 2, 0);
            v.file("F");
            for (int way = 0; way < 2; way++) {
                for (int what : new int[] {-1, 6, 7, MIN, MAX}) {
                    Due.throwsArgument("about(0, " + what + ")", () -> v.about(0, what));
                    Due.throwsIndex("no such item comes first", () -> v.about(2, what));
                }
                Due.is("the last that is told", v.about(0, 5), 0);
                v.run(0, 128);
            }
        });
    }

    private static void content() {
        Sentence.holds(13, "A byte of file k here; NONE if it is a directory, or has none such.", () -> {
            Counted v = new Counted(400);
            v.format(2, 8, 2, 0);
            v.directory("D");
            v.file("EMPTY");
            v.file("ONE");
            v.grow(2, 1, 65);
            v.file("MORE");
            v.grow(3, 13000, 0);
            for (int way = 0; way < 2; way++) {
                for (int at : new int[] {-1, 0, 1, 32, 1023, MIN, MAX}) {
                    Due.is("a directory at " + at, v.content(0, at), -1);
                    Due.is("an empty file at " + at, v.content(1, at), -1);
                    Due.is("a byte at " + at, v.content(2, at), at == 0 ? 65 : -1);
                }
                for (int at : new int[] {0, 1, 511, 512, 1023, 1024, 12287, 12288, 12999}) {
                    Due.is("at " + at, v.content(3, at), at * at + (at >> 8) & 255);
                }
                for (int at : new int[] {-1, 13000, 13311, 13312, MIN, MAX}) {
                    Due.is("at " + at, v.content(3, at), -1);
                }
                Due.is("run", v.run(0, 128), 0);
            }
        });
    }

    private static void enter() {
        Sentence.holds(14, "Directory k here becomes HERE: how many items it has.", () -> {
            Counted v = new Counted(400);
            v.format(2, 8, 2, 0);
            v.directory("A");
            v.directory("B");
            v.enter(1);
            v.file("X");
            v.up();
            for (int way = 0; way < 2; way++) {
                Due.is("one without items", v.enter(0), 0);
                v.up();
                Due.is("one with an item", v.enter(1), 1);
                Due.is("HERE", v.letter(0, 0), 'X');
                Due.is("run", v.run(0, 128), 0);
            }
        });
        Sentence.holds(14, "IllegalArgumentException if it is a file.", () -> {
            Counted v = new Counted(400);
            v.format(2, 8, 2, 0);
            v.file("F");
            Due.throwsArgument("a file", () -> v.enter(0));
            v.run(0, 128);
            Due.throwsArgument("a file", () -> v.enter(0));
            Due.throwsArgument("the record", () -> v.enter(1));
            Due.throwsIndex("behind the record", () -> v.enter(2));
        });
        Sentence.holds(14, "from the directory HERE, which is the root at first, and behind each format, poke and run"
                + " (that did not throw or answer false).", () -> {
            Counted v = new Counted(400);
            v.format(2, 8, 2, 0);
            v.directory("D");
            Due.is("the root at first", v.up(), false);
            v.enter(0);
            Due.is("a poke that is false", v.poke(2, 0, 0), false);
            Due.is("HERE stays", v.items(), 0);
            Due.throwsArgument("a format that throws", () -> v.format(3, 8, 2, 0));
            Due.is("HERE stays", v.items(), 0);
            Due.throwsArgument("a run that throws", () -> v.run(2, 128));
            Due.is("HERE stays", v.items(), 0);
            Due.is("a poke that changes nothing", v.poke(1, 0, 0x52), true);
            Due.is("HERE is the root", v.items(), 1);
            v.enter(0);
            Due.is("a run that is refused", v.run(0, 0), 12);
            Due.is("HERE is the root", v.items(), 1);
            v.enter(0);
            Due.is("a run that does nothing", v.run(1, 0), 0);
            Due.is("HERE is the root", v.items(), 1);
            v.enter(0);
            Due.is("a run", v.run(0, 128), 0);
            Due.is("HERE is the root", v.items(), 2);
            v.enter(0);
            Due.is("a poke that is false", v.poke(1, 0, 0x52), false);
            Due.is("HERE stays", v.items(), 0);
            Due.is("a run that does nothing", v.run(0, 128), 0);
            Due.is("HERE is the root", v.items(), 2);
            v.enter(0);
            v.format(2, 8, 2, 0);
            Due.is("HERE is the root", v.up(), false);
        });
    }

    private static void up() {
        Sentence.holds(15, "The parent of HERE becomes HERE; false if it is the root.", () -> {
            Counted v = new Counted(400);
            v.format(2, 8, 2, 0);
            v.directory("A");
            v.directory("B");
            v.enter(1);
            v.directory("C");
            v.directory("X");
            for (int way = 0; way < 2; way++) {
                v.up();
                Due.is("the root", v.up(), false);
                Due.is("it stays", v.items(), 2 + way);
                v.enter(1);
                v.enter(0);
                Due.is("from two below", v.up(), true);
                Due.is("one below", v.items(), 2);
                Due.is("from one below", v.up(), true);
                Due.is("the root", v.items(), 2 + way);
                Due.is("the root has none", v.up(), false);
                Due.is("run", v.run(0, 128), 0);
            }
        });
        Sentence.holds(15, "IllegalStateException (there is no such volume, or it isn't sound)", () -> {
            Counted v = new Counted(256);
            Due.throwsState("no volume", () -> v.up() ? 1 : 0);
            v.format(2, 9, 1, 0);
            v.poke(9, 4, 0);
            Due.throwsState("not sound", () -> v.up() ? 1 : 0);
            v.poke(9, 4, 255);
            Due.is("sound", v.up(), false);
        });
    }
}
