/** The edges that the document names for the inode volume that a run (25) makes. */
final class InodeEdges {
    private InodeEdges() {
    }

    static void all() {
        superblock();
        descriptors();
        maps();
        inodes();
        times();
        pointers();
        numbers();
        files();
        entries();
        blocksOfEntries();
        record();
        mark();
        allElse();
    }

    /**
     * 400 sectors, C = 2, V = 8, two tables of two sectors, A = 12, K = 194: cluster c is block c + 4. In
     * groups of 128 blocks (Q = 2), and with at most five items (G = 8), blocks 6 to 8 are the maps and
     * inodes of group 0; group 1 begins with block 129, its maps are 131 and 132, its inodes 133.
     */
    private static Counted volume() {
        Counted v = new Counted(400);
        v.format(2, 8, 2, 0);
        return v;
    }

    private static void turn(Counted v) {
        Due.is("run", v.run(0, 128), 0);
    }

    private static long at(Counted v, int block, int at, int bytes) {
        return v.number(2 * block + at / 512, at % 512, bytes);
    }

    /** A number in an inode of a volume with G = 8. */
    private static long ofInode(Counted v, int inode, int at, int bytes) {
        int k = inode - 1;
        return at(v, k < 8 ? 8 : 133, k % 8 * 128 + at, bytes);
    }

    private static void superblock() {
        Sentence.holds(25, "12 (4) free blocks (of groups); 16 (4) free inodes", () -> {
            Counted v = volume();
            v.file("A");
            int free = v.plan(128, 6);
            turn(v);
            Due.is("inodes", at(v, 1, 0, 4), 16);
            Due.is("blocks", at(v, 1, 4, 4), 200);
            // Block 0 is of no group: 199 - 10 fixed ones - 7 of the record - 1 of the root.
            Due.is("free blocks", at(v, 1, 12, 4), 181);
            Due.is("as planned", free, 181);
            Due.is("free inodes", at(v, 1, 16, 4), 16 - 12);
            Counted w = volume();
            for (int i = 0; i < 5; i++) {
                w.file("F" + i);
            }
            turn(w);
            Due.is("no free inode", at(w, 1, 16, 4), 0);
            Counted u = volume();
            u.file("F");
            u.grow(0, 180 * 1024, 0);
            turn(u);
            Due.is("no free block", at(u, 1, 12, 4), 0);
            Due.is("none in group 0", at(u, 2, 12, 2), 0);
            Due.is("none in group 1", at(u, 2, 32 + 12, 2), 0);
        });
        Sentence.holds(25, "20 (4) 1; 32 (4) P; 36 (4) P; 40 (4) G; 54 (2) 65535; 56 (2) 61267; 58 (2) 1; 60 (2) 1; 76 (4) 1; 84 (4) 11;"
                + " 88 (2) 128;", () -> {
            Counted v = volume();
            turn(v);
            long[][] numbers = {{20, 4, 1}, {32, 4, 128}, {36, 4, 128}, {40, 4, 8}, {54, 2, 65535}, {56, 2, 61267}, {58, 2, 1}, {60, 2, 1},
                {76, 4, 1}, {84, 4, 11}, {88, 2, 128}, {96, 4, 2}};
            for (long[] n : numbers) {
                Due.is("at " + n[0], at(v, 1, (int) n[0], (int) n[1]), n[2]);
                Due.is("in group 1 at " + n[0], at(v, 129, (int) n[0], (int) n[1]), n[2]);
            }
        });
        Sentence.holds(25, "90 (2) the number of the group in which it stands", () -> {
            Counted v = new Counted(1024);
            v.format(2, 8, 2, 0);
            Due.is("run", v.run(0, 64), 0);
            for (int g = 0; g < 8; g++) {
                Due.is("superblock of group " + g, at(v, 1 + 64 * g, 56, 2), 61267);
                Due.is("its number", at(v, 1 + 64 * g, 90, 2), g);
            }
        });
        Sentence.holds(25, "104 (4) what sector 0 has at 67 (4)", () -> {
            for (int id : new int[] {0, -1, Integer.MIN_VALUE, 0x01020304}) {
                Counted v = new Counted(400);
                v.format(2, 8, 2, id);
                turn(v);
                Due.is("of " + id, at(v, 1, 104, 4), id & 0xffffffffL);
                Due.is("in group 1", at(v, 129, 104, 4), id & 0xffffffffL);
            }
            Counted v = volume();
            v.poke(0, 70, 200);
            turn(v);
            Due.is("as it stands there now", at(v, 1, 104, 4), 200L << 24);
        });
        Sentence.holds(25, "120 (16) the label's short name without blanks at its end; else 0.", () -> {
            String[] labels = {"", "A", "A B", "ELEVEN BYTE", "TEN BYTES!", "A  ", "A         B"};
            for (String label : labels) {
                Counted v = new Counted(400);
                v.text(label);
                v.format(2, 8, 2, 0);
                turn(v);
                String due = (label.trim() + "\0".repeat(18)).substring(0, 18);
                Due.is("label " + label, v.textAt(2, 118, 20), "\0\0" + due);
            }
        });
    }

    private static void descriptors() {
        Sentence.holds(25, "32 bytes for each group", () -> {
            Counted v = new Counted(1024);
            v.format(2, 8, 2, 0);
            v.directory("D");
            Due.is("run", v.run(0, 64), 0);
            // A = 16, so that the maps of group 0 begin with block 8.
            for (int g = 0; g < 8; g++) {
                int map = g == 0 ? 8 : 64 * g + 3;
                Due.is("block map of " + g, at(v, 2, 32 * g, 4), map);
                Due.is("inode map of " + g, at(v, 2, 32 * g + 4, 4), map + 1);
                Due.is("inodes of " + g, at(v, 2, 32 * g + 8, 4), map + 2);
                Due.is("free inodes of " + g, at(v, 2, 32 * g + 14, 2), g == 0 ? 0 : g == 1 ? 4 : 8);
                Due.is("directories of " + g, at(v, 2, 32 * g + 16, 2), g < 2 ? 1 : 0);
            }
            Due.is("free blocks of the last one, which has 63", at(v, 2, 32 * 7 + 12, 2), 63 - 5);
            Due.is("else 0", at(v, 2, 18, 8) + at(v, 2, 32 * 7 + 18, 8), 0);
            Due.is("behind the last one", at(v, 2, 32 * 8, 8) + at(v, 2, 32 * 9, 8) + at(v, 2, 1016, 8), 0);
        });
        Sentence.holds(25, "Each other group begins with copies of both.", () -> {
            Counted v = volume();
            turn(v);
            for (int i = 0; i < 70; i++) {
                Due.is("descriptors at " + i, at(v, 130, i, 1), at(v, 2, i, 1));
            }
            for (int i : new int[] {0, 4, 12, 16, 20, 32, 36, 40, 54, 56, 58, 60, 76, 84, 88, 96}) {
                Due.is("superblock at " + i, at(v, 129, i, 2), at(v, 1, i, 2));
            }
        });
    }

    private static void maps() {
        Sentence.holds(25, "1 if it is used; bits behind the last one are 1.", () -> {
            Counted v = volume();
            turn(v);
            // Used in group 0: blocks 1 to 13; its 128 bits are bytes 0 to 15.
            Due.is("blocks 1 to 8", at(v, 6, 0, 1), 255);
            Due.is("blocks 9 to 16", at(v, 6, 1, 1), 31);
            Due.is("the last ones of group 0", at(v, 6, 15, 1), 0);
            Due.is("behind them", at(v, 6, 16, 1), 255);
            Due.is("the last byte", at(v, 6, 1023, 1), 255);
            // Group 1 has 71 blocks: bit 70 is the last one.
            Due.is("its fixed ones", at(v, 131, 0, 1), 31);
            Due.is("bits 56 to 63", at(v, 131, 7, 1), 0);
            Due.is("bits 64 to 71", at(v, 131, 8, 1), 128);
            Due.is("behind them", at(v, 131, 9, 1), 255);
            Due.is("the last byte", at(v, 131, 1023, 1), 255);
            Due.is("inodes 1 to 8", at(v, 7, 0, 1), 255);
            Due.is("behind them", at(v, 7, 1, 1), 255);
            Due.is("inodes 9 to 16", at(v, 132, 0, 1), 7);
            Due.is("behind them", at(v, 132, 1, 1), 255);
            Due.is("the last byte", at(v, 132, 1023, 1), 255);
        });
        Sentence.holds(25, "numbers begin with 1: inode i is k = (i - 1) % G of group (i - 1) / G", () -> {
            Counted v = volume();
            for (int i = 0; i < 5; i++) {
                v.directory("D" + i);
            }
            turn(v);
            Due.is("all of group 0", at(v, 7, 0, 1), 255);
            Due.is("all of group 1", at(v, 132, 0, 1), 255);
            Due.is("the root is of group 0", at(v, 2, 16, 2), 1);
            Due.is("all others of group 1", at(v, 2, 32 + 16, 2), 5);
            Due.is("inode 16, the last one", ofInode(v, 16, 0, 2), 16877);
            Due.is("inode 9, the first of group 1", ofInode(v, 9, 0, 2), 0);
            // Eight groups of 8 inodes: those of group 1 are block 69, those of group 2 block 133.
            Counted w = new Counted(1024);
            w.format(2, 8, 2, 0);
            for (int i = 1; i <= 6; i++) {
                w.directory("D" + i);
                w.stamp(i - 1, 2, 32 + i, 0);
            }
            Due.is("run", w.run(0, 64), 0);
            Due.is("directories", w.number(4, 16, 2) + " " + w.number(4, 48, 2) + " " + w.number(4, 80, 2) + " " + w.number(4, 112, 2), "1 5 1 0");
            Due.is("inode 16, the last of group 1", at(w, 69, 7 * 128, 2), 16877);
            Due.is("inode 17, the first of group 2", at(w, 133, 0, 2), 16877);
            for (int i = 1; i <= 6; i++) {
                Due.is("WRITTEN of item " + i, w.about(i - 1, 4), 315532800L + 86400 * (i - 1));
            }
            Due.is("enter the first of group 2", w.enter(5), 0);
            Due.is("up", w.up(), true);
            Due.is("enter the last of group 1", w.enter(4), 0);
        });
        Sentence.holds(25, "in group 0 from block A / 2 on, in others behind the descriptors' copy.", () -> {
            Counted v = new Counted(400);
            v.format(2, 62, 1, 0);
            // One table of two sectors, A = 64.
            turn(v);
            Due.is("block map of group 0", at(v, 2, 0, 4), 32);
            Due.is("inode map of group 0", at(v, 2, 4, 4), 33);
            Due.is("inodes of group 0", at(v, 2, 8, 4), 34);
            Due.is("block map of group 1", at(v, 2, 32, 4), 131);
            Due.is("the root's inode", at(v, 34, 128, 2), 16877);
        });
    }

    private static void inodes() {
        Sentence.holds(25, "at 0 (2) 16877 a directory, 33188 a file (of both 128 less if READ ONLY)", () -> {
            Counted v = volume();
            v.file("F");
            v.file("G");
            v.directory("D");
            v.directory("E");
            v.stamp(1, 4, 0, 1);
            v.stamp(3, 4, 0, 1);
            turn(v);
            int[] due = {33188, 33060, 16877, 16749};
            for (int i = 0; i < 4; i++) {
                Due.is("inode " + (12 + i), ofInode(v, 12 + i, 0, 2), due[i]);
            }
        });
        Sentence.holds(25, "26 (2) LINKS: 1, of a directory 2 and one for each directory in it", () -> {
            Counted v = volume();
            v.directory("A");
            v.file("F");
            v.enter(0);
            v.directory("B");
            v.directory("C");
            v.file("G");
            turn(v);
            Due.is("the root: A", ofInode(v, 2, 26, 2), 3);
            Due.is("A: B and C", ofInode(v, 12, 26, 2), 4);
            Due.is("F", ofInode(v, 13, 26, 2), 1);
            Due.is("B: none", ofInode(v, 14, 26, 2), 2);
            Due.is("G", ofInode(v, 16, 26, 2), 1);
            Counted w = volume();
            turn(w);
            Due.is("a root without directories", ofInode(w, 2, 26, 2), 2);
        });
    }

    private static void times() {
        Sentence.holds(12, "(READ at 0:00; MADE with HUNDREDTHS / 100 (down) more; WRITTEN, with its time, in place of those whose day is 0)", () -> {
            Counted v = volume();
            v.file("F");
            int day = 20 * 512 + 2 * 32 + 29;
            int time = 12 * 2048 + 34 * 32 + 28;
            long begin = 951782400;
            long seconds = begin + 12 * 3600 + 34 * 60 + 56;
            v.stamp(0, 2, day, time);
            times(v, seconds, seconds, seconds);
            v.stamp(0, 1, day, 0);
            times(v, begin, seconds, seconds);
            v.stamp(0, 2, 33, 0);
            times(v, begin, 315532800, 315532800);
            v.stamp(0, 0, day, time);
            times(v, begin, seconds, 315532800);
            int[][] more = {{0, 0}, {99, 0}, {100, 1}, {199, 1}};
            for (int[] m : more) {
                v.stamp(0, 3, 0, m[0]);
                times(v, begin, seconds + m[1], 315532800);
            }
            v.stamp(0, 1, 0, 0);
            times(v, 315532800, seconds + 1, 315532800);
            turn(v);
            times(v, 315532800, seconds + 1, 315532800);
            Due.is("READ in the inode", ofInode(v, 12, 8, 4), 315532800);
            Due.is("MADE in the inode", ofInode(v, 12, 12, 4), seconds + 1);
            Due.is("WRITTEN in the inode", ofInode(v, 12, 16, 4), 315532800);
        });
    }

    private static void times(Counted v, long read, long made, long written) {
        Due.is("READ", v.about(0, 2), read);
        Due.is("MADE", v.about(0, 3), made);
        Due.is("WRITTEN", v.about(0, 4), written);
    }

    /** A file of so many bytes, alone in a volume of 1024 sectors (C = 2, A = 16, one block a cluster). */
    private static Counted fileOf(int bytes) {
        Counted v = new Counted(1024);
        v.format(2, 8, 2, 0);
        v.file("F");
        v.grow(0, bytes, 0);
        Due.is("run", v.run(0, 256), 0);
        return v;
    }

    /** With groups of 256 (Q = 2) and one item G is 8: inode 12 is the fourth of group 1, whose inodes are block 261. */
    private static long ofFile(Counted v, int at, int bytes) {
        return at(v, 261, 3 * 128 + at, bytes);
    }

    private static void pointers() {
        Sentence.holds(25, "28 (4) twice its blocks, indirect ones counted", () -> {
            int[][] all = {{0, 0}, {1, 2}, {1024, 2}, {1025, 4}, {12 * 1024, 24}, {12 * 1024 + 1, 28}, {268 * 1024, 538}, {268 * 1024 + 1, 544}};
            for (int[] x : all) {
                Due.is("of " + x[0] + " bytes", ofFile(fileOf(x[0]), 28, 4), x[1]);
            }
        });
        Sentence.holds(25, "12 to its first blocks, one to an INDIRECT block (256 pointers), one to a DOUBLY indirect one"
                + " (256 pointers to indirect ones), 0; pointers behind its last block are 0.", () -> {
            int[] blocks = {0, 1, 12, 13, 268, 269, 300};
            for (int count : blocks) {
                Counted v = fileOf(1024 * count);
                for (int i : new int[] {0, 1, 11}) {
                    Due.is("pointer " + i + " of " + count, ofFile(v, 40 + 4 * i, 4) != 0, i < count);
                }
                long indirect = ofFile(v, 88, 4);
                long twice = ofFile(v, 92, 4);
                Due.is("the indirect one of " + count, indirect != 0, count > 12);
                Due.is("the doubly indirect one of " + count, twice != 0, count > 268);
                Due.is("the last one of " + count, ofFile(v, 96, 4), 0);
                if (count > 12) {
                    Due.is("its first", at(v, (int) indirect, 0, 4) != 0, true);
                    Due.is("its second", at(v, (int) indirect, 4, 4) != 0, count > 13);
                    Due.is("its last", at(v, (int) indirect, 1020, 4) != 0, count >= 268);
                }
                if (count > 268) {
                    int one = (int) at(v, (int) twice, 0, 4);
                    Due.is("one of the doubly indirect", one != 0, true);
                    Due.is("no other", at(v, (int) twice, 4, 4), 0);
                    Due.is("its first", at(v, one, 0, 4) != 0, true);
                    Due.is("its last", at(v, one, 4 * (count - 269), 4) != 0, true);
                    Due.is("no other", at(v, one, 4 * (count - 268), 4) + at(v, one, 1020, 4), 0);
                }
                Due.is("the last byte", v.content(0, 1024 * count - 1),
                        count == 0 ? -1 : (1024 * count - 1) * (1024 * count - 1) + (1024 * count - 1 >> 8) & 255);
                Due.is("none behind", v.content(0, 1024 * count), -1);
            }
        });
        Sentence.holds(25, "pointers behind its last block are 0.", () -> {
            // What another file has there is not taken over: F has 16 blocks, G 14, H two.
            Counted v = volume();
            int[] sizes = {16 * 1024, 14 * 1024, 2 * 1024};
            for (int i = 0; i < 3; i++) {
                v.file("F" + i);
                v.grow(i, sizes[i], i);
            }
            turn(v);
            int indirect = (int) ofInode(v, 13, 88, 4);
            Due.is("the 14th of 14", at(v, indirect, 4, 4) != 0, true);
            Due.is("the 15th of 14", at(v, indirect, 8, 4), 0);
            Due.is("the 16th of 14", at(v, indirect, 12, 4), 0);
            Due.is("the second of two", ofInode(v, 14, 44, 4) != 0, true);
            Due.is("the third of two", ofInode(v, 14, 48, 4), 0);
            Due.is("the 12th of two", ofInode(v, 14, 84, 4), 0);
        });
    }

    private static void numbers() {
        Sentence.holds(25, "Inode 2 is the root (times 0), 11 the RECORD, item i (from 1 on) has 11 + i; inodes 1 to 11 are used,"
                + " those without anything are 0.", () -> {
            Counted v = volume();
            v.file("A");
            turn(v);
            for (int inode : new int[] {1, 3, 4, 5, 6, 7, 8, 9, 10, 13, 16}) {
                Due.is("inode " + inode, ofInode(v, inode, 0, 8) + ofInode(v, inode, 26, 2) + ofInode(v, inode, 40, 8), 0);
            }
            Due.is("inodes 1 to 8 are used", at(v, 7, 0, 1), 255);
            Due.is("inodes 9 to 12 are used", at(v, 132, 0, 1), 15);
            Due.is("the root", ofInode(v, 2, 0, 2), 16877);
            Due.is("its times", ofInode(v, 2, 8, 4) + ofInode(v, 2, 12, 4) + ofInode(v, 2, 16, 4), 0);
            Due.is("the record", ofInode(v, 11, 0, 2), 33024);
            Due.is("item 1", ofInode(v, 12, 0, 2), 33188);
        });
        Sentence.holds(25, "a directory's turn comes in the order of the items (so the root's all come first).", () -> {
            Counted v = volume();
            v.directory("A");
            v.file("B");
            v.enter(0);
            v.directory("C");
            v.enter(0);
            v.file("D");
            v.grow(0, 1, 0);
            v.up();
            v.file("E");
            turn(v);
            int[] due = {16877, 33188, 16877, 33188, 33188};
            int[] sizes = {1024, 0, 1024, 0, 1};
            for (int i = 0; i < 5; i++) {
                Due.is("item " + (i + 1), ofInode(v, 12 + i, 0, 2), due[i]);
                Due.is("its size", ofInode(v, 12 + i, 4, 4), sizes[i]);
            }
        });
    }

    private static void files() {
        Sentence.holds(25, "FILES' blocks are where their clusters stand, those up to their size.", () -> {
            // C = 8, A = 10: cluster 3 has the blocks 9 to 12, sectors 18 to 25.
            int[][] all = {{1, 1}, {1024, 1}, {1025, 2}, {3072, 3}, {3073, 4}, {4096, 4}};
            for (int[] x : all) {
                Counted v = new Counted(300);
                v.format(8, 9, 1, 0);
                v.file("F");
                v.grow(0, x[0], 1);
                Due.is("run", v.run(0, 64), 0);
                for (int b = 0; b < 4; b++) {
                    Due.is("block " + b + " of " + x[0] + " bytes", v.byteAt(18 + 2 * b, 0) != -1, b < x[1]);
                }
            }
            Counted v = new Counted(300);
            v.format(8, 9, 1, 0);
            v.file("F");
            v.run(0, 64);
            Due.is("an empty file has none", v.content(0, 0), -1);
            Due.is("free blocks", v.number(2, 12, 4), 124);
        });
    }

    /** Of a volume with the root alone at block 13 (built behind the record's three): an entry of it. */
    private static long ofEntry(Counted v, int at, int bytes) {
        return at(v, 13, at, bytes);
    }

    private static void entries() {
        Sentence.holds(25, "its length is 8 and the name's bytes, up to a multiple of 4", () -> {
            Counted v = volume();
            v.file("A");
            v.file("ABCD");
            v.file("ABCDE");
            v.file("ABCDEFGH");
            turn(v);
            int[] lengths = {12, 12, 12, 12, 16, 16, 1024 - 80};
            int[] bytes = {1, 2, 1, 4, 5, 8, 7};
            int[] inode = {2, 2, 12, 13, 14, 15, 11};
            int[] kinds = {2, 2, 1, 1, 1, 1, 1};
            int place = 0;
            for (int e = 0; e < lengths.length; e++) {
                Due.is("inode of entry " + e, ofEntry(v, place, 4), inode[e]);
                Due.is("length of entry " + e, ofEntry(v, place + 4, 2), lengths[e]);
                Due.is("bytes of entry " + e, ofEntry(v, place + 6, 1), bytes[e]);
                Due.is("kind of entry " + e, ofEntry(v, place + 7, 1), kinds[e]);
                place += lengths[e];
            }
            Due.is("behind a name of five", ofEntry(v, 48 + 13, 3), 0);
        });
        Sentence.holds(25, "(units in one byte below 128, in two below 2048, else in three", () -> {
            Counted v = volume();
            v.file("~\u0080\u07ff\u0800\uffef");
            turn(v);
            int[] due = {0x7e, 0xc2, 0x80, 0xdf, 0xbf, 0xe0, 0xa0, 0x80, 0xef, 0xbf, 0xaf, 0};
            Due.is("bytes", ofEntry(v, 24 + 6, 1), 11);
            for (int i = 0; i < due.length; i++) {
                Due.is("byte " + i, ofEntry(v, 24 + 8 + i, 1), due[i]);
            }
        });
    }

    /** A directory with names of so many units, three bytes each: its blocks in an inode volume. */
    private static Counted named(boolean inRoot, int... units) {
        Counted v = new Counted(400);
        v.format(2, 8, 2, 0);
        if (!inRoot) {
            v.directory("D");
            v.enter(0);
        }
        for (int i = 0; i < units.length; i++) {
            v.file((char) (0x4e00 + i) + "\u4e2d".repeat(units[i] - 1));
        }
        turn(v);
        return v;
    }

    private static void blocksOfEntries() {
        Sentence.holds(25, "where the next one would not fit into the block, a new one begins; the last entry of each block is as long as what is left.", () -> {
            // 24 bytes of . and .., three times 8 + 246 up to 256, then 232: a full block.
            Counted full = named(false, 82, 82, 82, 74);
            Due.is("a full block is one", full.about(0, 5), 1024);
            full.enter(0);
            Due.is("items", full.items(), 4);
            // Blocks 9 to 11 are the directories' clusters, 12 to 14 the record's, 15 the root's, those of D from 16 on.
            Due.is("the last entry ends with the block", at(full, 16, 24 + 768 + 4, 2), 232);
            Counted over = named(false, 82, 82, 82, 75);
            Due.is("four bytes more are two", over.about(0, 5), 2048);
            over.enter(0);
            Due.is("items", over.items(), 4);
            Due.is("the third name is as long as what is left", at(over, 16, 24 + 512 + 4, 2), 1024 - 24 - 512);
            Due.is("the fourth one, too", at(over, 17, 4, 2), 1024);
            Due.is("its inode", at(over, 17, 0, 4), 16);
            // Three in the first block, four that fill the second one, then a third block.
            Counted seven = named(false, 82, 82, 82, 82, 82, 82, 82);
            Due.is("two full blocks", seven.about(0, 5), 2048);
            Due.is("items", seven.enter(0), 7);
            Counted eight = named(false, 82, 82, 82, 82, 82, 82, 82, 1);
            Due.is("one more needs a third one", eight.about(0, 5), 3072);
            Due.is("items", eight.enter(0), 8);
            Due.is("the last one", eight.letter(7, 0), 0xe4);
        });
        Sentence.holds(25, "then its items in order, in the root at last \".turned\", the record", () -> {
            // 24 bytes of . and .., three times 256, 216, then 16 for the record.
            Counted full = named(true, 82, 82, 82, 69);
            Due.is("the record fits", full.number(2 * 8, 128 + 4, 4), 1024);
            Due.is("items", full.items(), 5);
            Due.is("the record is the last one", full.nameOf(4), ".turned");
            Counted over = named(true, 82, 82, 82, 70);
            Due.is("it does not fit", over.number(2 * 8, 128 + 4, 4), 2048);
            Due.is("items", over.items(), 5);
            Due.is("the record is the last one", over.nameOf(4), ".turned");
            Due.is("its entry is a block", at(over, 14, 4, 2), 1024);
        });
        Sentence.holds(12, "Size: 1024 for each block.", () -> {
            Counted v = volume();
            v.directory("D");
            turn(v);
            Due.is("a directory without items", v.about(0, 5), 1024);
            Due.is("the root", ofInode(v, 2, 4, 4), 1024);
        });
    }

    private static void record() {
        Sentence.holds(13, "its blocks are three BUILT ones (the sectors 2 and 3; 4 and 5; 7 and nothing but 0, as they were in the table volume)", () -> {
            Counted v = volume();
            int[] kept = {3, 4, 5};
            for (int sector : kept) {
                v.poke(sector, 0, 10 + sector);
                v.poke(sector, 511, 20 + sector);
            }
            turn(v);
            Due.is("sector 2", v.content(0, 0) + v.content(0, 511), 0);
            for (int sector : kept) {
                Due.is("first byte of sector " + sector, v.content(0, 512 * (sector - 2)), 10 + sector);
                Due.is("last byte of sector " + sector, v.content(0, 512 * (sector - 2) + 511), 20 + sector);
            }
            for (int at : new int[] {2048, 2052, 2559, 2560, 3071}) {
                Due.is("sector 7, and 0, at " + at, v.content(0, at), 0);
            }
            // What stood in free clusters is not taken for sector 2 or 7, neither in the record nor behind the way back.
            Counted w = volume();
            for (int sector = 14; sector < 130; sector++) {
                w.poke(sector, 100, 77);
            }
            turn(w);
            for (int sector = 0; sector < 6; sector++) {
                Due.is("kept sector " + sector, w.content(0, 512 * sector + 100), 0);
            }
            w.run(1, 128);
            for (int sector = 2; sector < 8; sector++) {
                Due.is("sector " + sector, w.byteAt(sector, 100), 0);
            }
        });
        Sentence.holds(13, "the blocks 3 .. A / 2 - 1 where they are, and the clusters of all directories, by items, by chain, all their blocks,"
                + " where they stand (or have moved).", () -> {
            Counted v = volume();
            v.directory("D");
            v.file("F");
            turn(v);
            Due.is("sector 6, as sector 0", v.content(2, 3072 + 11) + 256 * v.content(2, 3072 + 12), 512);
            Due.is("sector 7 with the mark", v.content(2, 3072 + 512), 'T');
            Due.is("the first table", v.content(2, 4096), 248);
            Due.is("the last byte before the clusters", v.content(2, 6143), 0);
            Due.is("the root's cluster", v.content(2, 6144), 'D');
            Due.is("that of D", v.content(2, 7168), '.');
            Due.is("the last byte", v.content(2, 8191), 0);
            Due.is("behind it", v.content(2, 8192), -1);
            Due.is("size", v.about(2, 5), 8192);
            Counted w = new Counted(300);
            w.format(8, 9, 1, 0);
            w.run(0, 64);
            Due.is("all four blocks of a cluster", w.about(0, 5), 1024 * (3 + 2 + 4));
        });
        Sentence.holds(12, "(33024, READ ONLY, times 0, one link; size 1024 for each block)", () -> {
            Counted v = volume();
            turn(v);
            Due.is("mode", ofInode(v, 11, 0, 2), 33024);
            Due.is("a file", v.about(0, 0), 0);
            Due.is("read only", v.about(0, 1), 1);
            Due.is("times", v.about(0, 2) + v.about(0, 3) + v.about(0, 4), 0);
            Due.is("one link", ofInode(v, 11, 26, 2), 1);
            Due.is("size", v.about(0, 5), 7 * 1024);
        });
    }

    private static void mark() {
        Sentence.holds(25, "THE MARK, sector 7: the bytes of TURN, then P (4) and G (4), else 0. Block 0 stays as it was.", () -> {
            Counted v = volume();
            v.poke(0, 0, 99);
            v.poke(1, 511, 98);
            turn(v);
            Due.is("TURN", v.textAt(7, 0, 4), "TURN");
            Due.is("P", v.number(7, 4, 4), 128);
            Due.is("G", v.number(7, 8, 4), 8);
            for (int at = 12; at < 512; at += at < 20 ? 1 : 41) {
                Due.is("sector 7 at " + at, v.byteAt(7, at), 0);
            }
            Due.is("its last byte", v.byteAt(7, 511), 0);
            Due.is("the first byte of block 0", v.byteAt(0, 0), 99);
            Due.is("the last byte of block 0", v.byteAt(1, 511), 98);
        });
    }

    private static void allElse() {
        Sentence.holds(25, "All other bytes of what is BUILT, and of maps, inodes, superblocks and descriptors, are 0.", () -> {
            Counted v = volume();
            // What stands in free clusters before the run must not be seen behind it.
            for (int block : new int[] {7, 8, 9, 10, 11, 12, 13, 14, 15, 129, 130, 131, 132, 133}) {
                v.poke(2 * block, 500, 99);
                v.poke(2 * block + 1, 1, 98);
                v.poke(2 * block + 1, 511, 97);
            }
            for (int sector = 3; sector <= 5; sector++) {
                v.poke(sector, 1, 96);
                v.poke(sector, 500, 95);
                v.poke(sector, 511, 94);
            }
            v.file("F");
            turn(v);
            int[] zero = {1, 2, 8, 12, 13, 129, 130, 133};
            for (int block : zero) {
                Due.is("block " + block, v.byteAt(2 * block, 500) + v.byteAt(2 * block + 1, 1) + v.byteAt(2 * block + 1, 511), 0);
            }
            int[] maps = {6, 7, 131, 132};
            for (int block : maps) {
                Due.is("map " + block, v.byteAt(2 * block, 500) + v.byteAt(2 * block + 1, 1) + v.byteAt(2 * block + 1, 511), 3 * 255);
            }
            for (int at : new int[] {8, 24, 28, 44, 48, 52, 62, 64, 72, 80, 92, 100, 108, 116, 136, 508}) {
                Due.is("superblock at " + at, at(v, 1, at, 4) - (at == 52 ? 65535L << 16 : 0), 0);
            }
            for (int at : new int[] {2, 20, 24, 32, 36, 100, 104, 120}) {
                Due.is("inode 11 at " + at, ofInode(v, 11, at, 2), 0);
            }
        });
        Sentence.holds(25, "All other bytes of what is BUILT", () -> {
            // A long name in the root, none in D: what is behind the entries of D is 0, not the root's.
            Counted v = volume();
            v.file("\u4e2d".repeat(82));
            v.directory("D");
            turn(v);
            // Blocks 9 and 10 are the directories' clusters, 11 to 13 the record's, 14 the root's, 15 that of D.
            Due.is("the root's", at(v, 14, 24 + 8, 1), 0xe4);
            for (int at = 24; at < 300; at += 4) {
                Due.is("that of D at " + at, at(v, 15, at, 1), 0);
            }
            // The second block of a directory has one name, behind which it is 0, too.
            Counted w = named(false, 82, 82, 82, 75);
            Due.is("the last byte of its name", at(w, 17, 8 + 224, 1), 0xad);
            for (int at = 8 + 225; at < 1024; at += 8) {
                Due.is("behind it at " + at, at(w, 17, at, 1), 0);
            }
        });
    }
}
