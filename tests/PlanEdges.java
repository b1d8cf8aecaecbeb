/** The edges that the document names for the plan and its refusals: the promises 22 and 23. */
final class PlanEdges {
    private static final int MIN = Integer.MIN_VALUE;
    private static final int MAX = Integer.MAX_VALUE;

    private PlanEdges() {
    }

    static void all() {
        groups();
        moves();
        built();
        used();
        refusals();
        sizeRefused();
        groupsRefused();
        namesRefused();
        timesRefused();
        roomRefused();
        plan();
        target();
    }

    /** C = 2, V = 8, two tables: A is 10 up to 262 sectors, then 12, and from 516 on 14 or 16. */
    private static Counted volume(int sectors) {
        Counted v = new Counted(sectors);
        v.format(2, 8, 2, 0);
        return v;
    }

    private static void groups() {
        Sentence.holds(22, "the last one those that are left; there are Q = (B - 1) / P (up).", () -> {
            // Sectors, then Q for groups of 64, 128 and 256 blocks; -1 if the last group is too small.
            int[][] all = {{256, 2, 1, 1}, {258, 2, 1, 1}, {260, -1, -1, 1}, {284, 3, 2, 1}, {386, 3, 2, 1}, {514, 4, 2, 1}, {516, -1, -1, -1},
                {540, 5, 3, 2}, {1022, 8, 4, 2}, {1024, 8, 4, 2}};
            for (int[] x : all) {
                Counted v = volume(x[0]);
                for (int i = 0; i < 3; i++) {
                    Due.is("groups of " + (64 << i) + " in " + x[0], v.plan(64 << i, 1), x[i + 1]);
                }
            }
        });
        Sentence.holds(22, "the least multiple of 8 so that Q * G is at least 11 + the number of items (without the root).", () -> {
            Counted v = volume(400);
            int[][] due = {{0, 8, 16}, {4, 8, 16}, {5, 8, 16}, {6, 16, 24}, {13, 16, 24}, {14, 16, 32}, {21, 16, 32}, {22, 24, 40}};
            int made = 0;
            for (int[] x : due) {
                while (made < x[0]) {
                    made++;
                    if (made == 6) {
                        // The sixth one is a directory, in which the others are: they count, too.
                        v.enter(v.directory("D"));
                    } else {
                        v.file("F" + made);
                    }
                }
                Due.is("in two groups with " + made + " items", v.plan(128, 2), x[1]);
                Due.is("in one group with " + made + " items", v.plan(256, 2), x[2]);
            }
        });
        Sentence.holds(22, "J = G / 8 blocks of inodes a group.", () -> {
            Counted v = volume(400);
            for (int i = 1; i <= 6; i++) {
                v.file("F" + i);
                Due.is("fixed in two groups with " + i + " items", v.plan(128, 3), 2 * (4 + (i <= 5 ? 1 : 2)));
                Due.is("fixed in one group with " + i + " items", v.plan(256, 3), 4 + (i <= 5 ? 2 : 3));
            }
            for (int i = 7; i <= 45; i++) {
                v.file("F" + i);
            }
            Due.is("inodes for 45 items", v.plan(256, 2), 56);
            Due.is("fixed in one group with 45 items", v.plan(256, 3), 4 + 7);
            // The root has the clusters 2 and 3; 11 is block 15, the first one behind the inodes.
            Due.is("target of 2", v.target(256, 2), 11);
            Due.is("target of 3", v.target(256, 3), 12);
            Due.is("run", v.run(0, 256), 0);
            // Inodes are the blocks 8 to 14: number 56 is the last one.
            Due.is("the last inode", v.number(2 * 14 + 1, 384, 2), 33188);
            Due.is("the last item", v.nameOf(44), "F45");
            Due.is("its size", v.about(44, 5), 0);
            Due.is("back", v.run(1, 256), 0);
            Due.is("items", v.items(), 45);
        });
    }

    /** 400 sectors, one file of so many clusters from 3 on; cluster c is block c + 4, the last one is 195. */
    private static Counted withClusters(int count) {
        Counted v = volume(400);
        v.file("F");
        v.grow(0, 1024 * count, 1);
        return v;
    }

    /** Where clusters move, in groups of 128: pairs of a cluster and its target. */
    private static void targets(Counted v, int moves, int... pairs) {
        Due.is("clusters that move", v.plan(128, 4), moves);
        for (int i = 0; i < pairs.length; i += 2) {
            Due.is("target of " + pairs[i], v.target(128, pairs[i]), pairs[i + 1]);
        }
    }

    private static void moves() {
        Sentence.holds(23, "A cluster that is not free and has a fixed block OBSTRUCTS; it MOVES, lower ones first, to the lowest free cluster"
                + " that has no fixed block and to which no other one moves.", () -> {
            // Fixed blocks: 6 to 8 (clusters 2 to 4) and 129 to 133 (clusters 125 to 129).
            targets(withClusters(0), 1, 2, 5, 3, 0, 4, 0, 125, 0);
            targets(withClusters(1), 2, 2, 5, 3, 6, 4, 0, 5, 0);
            targets(withClusters(2), 3, 2, 5, 3, 6, 4, 7);
            targets(withClusters(3), 3, 2, 6, 3, 7, 4, 8, 5, 0);
            targets(withClusters(120), 3, 2, 123, 3, 124, 4, 130);
            targets(withClusters(121), 3, 2, 124, 3, 130, 4, 131);
            targets(withClusters(122), 3, 2, 130, 3, 131, 4, 132, 124, 0);
            targets(withClusters(123), 4, 2, 130, 3, 131, 4, 132, 124, 0, 125, 133, 126, 0);
            targets(withClusters(128), 8, 2, 131, 4, 133, 124, 0, 125, 134, 129, 138, 130, 0);
        });
        Sentence.holds(23, "A cluster that is not free and has a fixed block OBSTRUCTS", () -> {
            // C = 8: of cluster 18 (blocks 69 to 72) and 34 (133 to 136) only the first block is fixed.
            Counted v = new Counted(300);
            v.format(8, 9, 1, 0);
            v.file("F");
            v.grow(0, 16 * 4096, 0);
            int[][] due = {{2, 19}, {3, 0}, {16, 0}, {17, 20}, {18, 21}, {19, 0}, {33, 0}, {34, 0}};
            for (int[] x : due) {
                Due.is("target of " + x[0], v.target(64, x[0]), x[1]);
            }
            Due.is("clusters that move", v.plan(64, 4), 3);
            v.grow(0, 16 * 4096, 0);
            Due.is("32 clusters are too many", v.plan(64, 0), 15);
            v.cut(0, 27 * 4096);
            // Free are 30 to 37, of which 33 and 34 have fixed blocks.
            int[][] more = {{2, 30}, {17, 31}, {18, 32}, {29, 0}, {30, 0}};
            for (int[] x : more) {
                Due.is("target of " + x[0], v.target(64, x[0]), x[1]);
            }
        });
    }

    private static long pointer(Counted v, int block, int inode, int at) {
        int place = 1024 * block + 128 * inode + at;
        return v.number(place / 512, place % 512, 4);
    }

    private static void built() {
        Sentence.holds(25, "What is built gets the lowest blocks of free clusters that are not fixed, and to which nothing moves, in this order", () -> {
            // C = 8, A = 10: the file has the clusters 3 to 17; of 18 the block 69 is fixed; 2 and 17 move to 19 and 20.
            Counted v = new Counted(300);
            v.format(8, 9, 1, 0);
            v.file("F");
            v.grow(0, 15 * 4096, 0);
            Due.is("2 moves", v.target(64, 2), 19);
            Due.is("17 moves", v.target(64, 17), 20);
            Due.is("built", v.plan(64, 5), 5);
            Due.is("run", v.run(0, 64), 0);
            Due.is("the record's three", pointer(v, 69, 2, 40) + " " + pointer(v, 69, 2, 44) + " " + pointer(v, 69, 2, 48), "70 71 72");
            Due.is("the root's", pointer(v, 7, 1, 40), 81);
            Due.is("the file's indirect one", pointer(v, 69, 3, 88), 82);
        });
        Sentence.holds(25, "What is built gets the lowest blocks of free clusters that are not fixed", () -> {
            // C = 8, A = 10, and the root is cluster 4: of the free cluster 2 the block 8 alone is not fixed.
            Counted v = new Counted(300);
            v.format(8, 9, 1, 0);
            v.poke(0, 44, 4);
            v.pokeNumber(9, 4 * 2, 4, 0);
            v.pokeNumber(9, 4 * 4, 4, 268435455);
            Due.is("nothing moves", v.plan(64, 4), 0);
            Due.is("run", v.run(0, 64), 0);
            Due.is("the record's three", pointer(v, 69, 2, 40) + " " + pointer(v, 69, 2, 44) + " " + pointer(v, 69, 2, 48), "8 9 10");
            Due.is("the root's", pointer(v, 7, 1, 40), 11);
        });
        Sentence.holds(25, "the record's three, then its indirect blocks; for each directory by items its blocks, then its indirect blocks;"
                + " for each file by items its indirect blocks.", () -> {
            // Two files of 13 blocks and six directories: the record has 3 + 3 + 7 blocks, so one indirect one.
            Counted v = volume(400);
            v.file("F");
            v.grow(0, 13 * 1024, 0);
            for (int i = 0; i < 6; i++) {
                v.directory("D" + i);
            }
            v.file("G");
            v.grow(7, 13 * 1024, 0);
            Due.is("built: 3 + 1, 7, 2", v.plan(256, 5), 13);
            // G = 24: the maps are 6 and 7, inodes 8 to 10; clusters 2 to 6 move to 35 .. 39, blocks 39 .. 43.
            Due.is("clusters that move", v.plan(256, 4), 5);
            Due.is("run", v.run(0, 256), 0);
            Due.is("the record's three", pointer(v, 9, 2, 40) + " " + pointer(v, 9, 2, 44) + " " + pointer(v, 9, 2, 48), "44 45 46");
            Due.is("its indirect one", pointer(v, 9, 2, 88), 47);
            Due.is("the root's", pointer(v, 8, 1, 40), 48);
            Due.is("the first directory's", pointer(v, 9, 4, 40), 49);
            Due.is("the last one's", pointer(v, 10, 1, 40), 54);
            Due.is("the first file's", pointer(v, 9, 3, 88), 55);
            Due.is("the last one's", pointer(v, 10, 2, 88), 56);
        });
        Sentence.holds(22, "An owner's indirect blocks, as far as they are needed: that of the 13th pointer, the doubly indirect one, then those of"
                + " the latter in order.", () -> {
            int[][] all = {{0, 0}, {1, 0}, {12 * 1024, 0}, {12 * 1024 + 1, 1}, {13 * 1024, 1}, {268 * 1024, 1}, {268 * 1024 + 1, 3}, {300 * 1024, 3}};
            for (int[] x : all) {
                Counted v = volume(1024);
                v.file("F");
                v.grow(0, x[0], 0);
                Due.is("built with " + x[0] + " bytes", v.plan(256, 5), 4 + x[1]);
            }
            // The record: 3 + 3 blocks and one for each directory; each directory is built, too.
            Counted v = volume(400);
            for (int i = 1; i <= 7; i++) {
                v.directory("D" + i);
                Due.is("built with " + i + " directories", v.plan(256, 5), 3 + (7 + i > 12 ? 1 : 0) + 1 + i);
            }
        });
    }

    private static void used() {
        Sentence.holds(9, "USED blocks are the fixed ones, and those of the record, of files, of directories with all indirect ones.", () -> {
            // A file of 269 blocks, 9 to 277: the root, two and twice five clusters of it move behind it.
            Counted v = volume(1024);
            v.file("F");
            v.grow(0, 269 * 1024, 0);
            Due.is("clusters that move", v.plan(128, 4), 1 + 2 + 5 + 5);
            Due.is("built: 3, 1, 3", v.plan(128, 5), 7);
            Due.is("run", v.run(0, 128), 0);
            int used = 0;
            for (int block = 262; block < 400; block++) {
                used += v.byteAt(2 * block + 1, 511) == -1 ? 0 : 1;
            }
            // From 262 on: 16 blocks of the file, 13 that have moved, seven that are built, five that are fixed.
            Due.is("blocks from 262 on that are used", used, 16 + 13 + 7 + 5);
        });
        Sentence.holds(9, "What a volume does not use has no say: it is not read through any call.", () -> {
            // C = 8: a block's cluster is a file's, but the file does not come so far.
            Counted v = new Counted(300);
            Counted w = new Counted(300);
            for (Counted x : new Counted[] {v, w}) {
                x.format(8, 9, 1, 0);
                x.file("F");
                x.grow(0, x == v ? 4096 : 2, 1);
                x.cut(0, 2);
                x.run(0, 64);
            }
            for (int sector = 2; sector < 300; sector++) {
                if (sector != 18 && sector != 19) {
                    Due.is("sector " + sector, v.byteAt(sector, sector), w.byteAt(sector, sector));
                }
            }
            Due.is("the last byte of the file's block stays", v.byteAt(19, 511), 1 + 1023 * 1023 + 3 & 255);
            Due.is("the block behind is not read", v.byteAt(20, 0), -1);
        });
    }

    private static void refusals() {
        Sentence.holds(22, "REFUSALS, the first of: 1 .. 6 the table volume's fault.", () -> {
            Counted v = new Counted(256);
            v.format(2, 8, 1, 0);
            // A is 9; the table is sector 8, the root sectors 9 and 10.
            Due.is("none of them", v.plan(7, 0), 11);
            v.poke(8, 4 * 9, 255);
            v.poke(8, 4 * 9 + 1, 255);
            v.poke(8, 4 * 9 + 2, 255);
            v.poke(8, 4 * 9 + 3, 15);
            Due.is("6", v.plan(7, 0), 6);
            v.poke(9, 0, 1);
            Due.is("4", v.plan(7, 0), 4);
            v.poke(8, 8, 2);
            v.poke(8, 9, 0);
            v.poke(8, 10, 0);
            v.poke(8, 11, 0);
            Due.is("3", v.plan(7, 0), 3);
            v.poke(8, 0, 0);
            Due.is("2", v.plan(7, 0), 2);
            Due.is("the run's refusal", v.run(0, 7), 2);
        });
        Sentence.holds(22, "11 A is odd.", () -> {
            int[][] all = {{8, 1, 11}, {9, 1, 0}, {8, 2, 0}, {9, 2, 11}, {63, 1, 0}, {64, 1, 11}};
            for (int[] x : all) {
                Counted v = new Counted(256);
                v.format(2, x[0], x[1], 0);
                Due.is("V = " + x[0] + ", Y = " + x[1], v.plan(128, 0), x[2]);
                Due.is("before the size of groups", v.plan(1, 0), x[2] == 11 ? 11 : 12);
            }
        });
        Sentence.holds(22, "REFUSALS, the first of", () -> {
            Counted v = volume(400);
            v.file(".turned");
            v.stamp(0, 2, 127 * 512 + 33, 0);
            v.file("F");
            v.grow(1, 190 * 1024, 0);
            Due.is("12 before 13", v.plan(64, 0), 12);
            Due.is("13 before 14", v.plan(128, 0), 13);
            v.remove(0);
            v.stamp(0, 2, 127 * 512 + 33, 0);
            Due.is("14 before 15", v.plan(128, 0), 14);
            v.stamp(0, 2, 33, 0);
            Due.is("15", v.plan(128, 0), 15);
            v.cut(0, 0);
            Due.is("none", v.plan(128, 0), 0);
        });
    }

    private static void sizeRefused() {
        Sentence.holds(22, "12 P is not 64, 128 or 256", () -> {
            Counted v = volume(1024);
            for (int p : new int[] {64, 128, 256}) {
                Due.is("P = " + p, v.plan(p, 0), 0);
            }
            int[] wrong = {0, 1, 2, 8, 32, 63, 65, 96, 127, 129, 192, 255, 257, 512, 1024, -64, -128, -256, 64 << 8, 1 << 30, MIN, MAX};
            for (int p : wrong) {
                Due.is("P = " + p, v.plan(p, 0), 12);
                Due.is("Q with P = " + p, v.plan(p, 1), -1);
                Due.is("target with P = " + p, v.target(p, 2), -1);
            }
            Due.is("run with P = 0", v.run(0, 0), 12);
        });
    }

    /** V = 64 and two tables of z sectors, so that A / 2 is 32 + z. */
    private static Counted late(int z, int files) {
        Counted v = new Counted(512);
        v.format(2, 64, 2, 0);
        for (int at = 0; at < 12; at++) {
            v.poke(64 + z, at, v.byteAt(64, at));
        }
        v.poke(0, 36, z);
        Due.is("fault with tables of " + z, v.fault(), 0);
        for (int i = 0; i < files; i++) {
            v.file("F" + i);
        }
        return v;
    }

    private static void groupsRefused() {
        Sentence.holds(22, "or group 0 has less than A / 2 + J + 9 blocks", () -> {
            Due.is("54 + 1 + 9", late(22, 0).plan(64, 0), 0);
            Due.is("55 + 1 + 9", late(23, 0).plan(64, 0), 12);
            Due.is("55 + 1 + 9 of 128", late(23, 0).plan(128, 0), 0);
            // Four groups: up to 21 items 8 inodes a group are enough.
            Due.is("54 + 1 + 9 with 21 items", late(22, 21).plan(64, 0), 0);
            Due.is("54 + 2 + 9 with 22 items", late(22, 22).plan(64, 0), 12);
            Due.is("53 + 2 + 9 with 22 items", late(21, 22).plan(64, 0), 0);
        });
        Sentence.holds(22, "or another one less than J + 12", () -> {
            Due.is("a last group of 12 with J = 1", volume(282).plan(64, 0), 12);
            Due.is("a last group of 13 with J = 1", volume(284).plan(64, 0), 0);
            Due.is("a last group of 1", volume(260).plan(64, 0), 12);
            Due.is("no other group", volume(258).plan(128, 0), 0);
            for (int sectors = 284; sectors <= 286; sectors += 2) {
                Counted v = volume(sectors);
                for (int i = 0; i < 13; i++) {
                    v.file("F" + i);
                }
                Due.is("J = 1 in " + sectors, v.plan(64, 0), 0);
                v.file("G");
                Due.is("J = 2 in " + sectors, v.plan(64, 0), sectors == 284 ? 12 : 0);
            }
        });
    }

    private static void namesRefused() {
        Sentence.holds(22, "13 a name has more than 255 bytes", () -> {
            Counted v = volume(400);
            v.directory("D");
            v.file("\u4e2d".repeat(85));
            Due.is("255 bytes", v.plan(128, 0), 0);
            v.remove(1);
            v.file("\u4e2d".repeat(84) + "\u00e9\u00e9");
            Due.is("256 bytes", v.plan(128, 0), 13);
            v.remove(1);
            v.enter(0);
            v.file("\u4e2d".repeat(86));
            Due.is("258 bytes in a directory", v.plan(128, 0), 13);
            v.remove(0);
            Due.is("without it", v.plan(128, 0), 0);
            Counted w = volume(400);
            w.file("x".repeat(255));
            Due.is("255 units of one byte", w.plan(128, 0), 0);
        });
        Sentence.holds(22, "or a name of the root is alike .turned.", () -> {
            String[] wrong = {".turned", ".TURNED", ".tUrNeD"};
            String[] right = {"turned", ".turne", ".turned1", "..turned", "-turned", ".turnee", ".turned.x"};
            for (String name : wrong) {
                Counted v = volume(400);
                v.file(name);
                Due.is(name, v.plan(128, 0), 13);
            }
            for (String name : right) {
                Counted v = volume(400);
                v.file(name);
                Due.is(name, v.plan(128, 0), 0);
            }
            Counted v = volume(400);
            v.directory("D");
            v.enter(0);
            v.file(".turned");
            Due.is("in a directory", v.plan(128, 0), 0);
            Counted w = volume(400);
            w.directory(".turned");
            Due.is("a directory", w.plan(128, 0), 13);
            // Its short name alone is none of its names.
            w.remove(0);
            w.file("TURNED~1");
            Due.is("its short name", w.plan(128, 0), 0);
        });
    }

    private static void timesRefused() {
        Sentence.holds(22, "14 a time in seconds is above 4294967295.", () -> {
            int day = 126 * 512 + 2 * 32 + 7;
            int time = 6 * 2048 + 28 * 32 + 7;
            Counted v = volume(400);
            v.file("F");
            v.stamp(0, 2, day, time);
            Due.is("WRITTEN at 4294967294", v.plan(128, 0), 0);
            v.stamp(0, 2, day, time + 1);
            Due.is("WRITTEN at 4294967296", v.plan(128, 0), 14);
            v.stamp(0, 2, 33, 0);
            v.stamp(0, 0, day, time);
            v.stamp(0, 3, 0, 199);
            Due.is("MADE at 4294967295", v.plan(128, 0), 0);
            v.stamp(0, 0, day, time + 1);
            v.stamp(0, 3, 0, 0);
            Due.is("MADE at 4294967296", v.plan(128, 0), 14);
            v.stamp(0, 0, 0, 0);
            v.stamp(0, 1, day, 0);
            Due.is("READ at 0:00 of that day", v.plan(128, 0), 0);
            v.stamp(0, 1, day + 1, 0);
            Due.is("READ a day later", v.plan(128, 0), 14);
            v.stamp(0, 1, 0, 0);
            Due.is("none", v.plan(128, 0), 0);
            v.stamp(0, 0, 33, 0);
            v.stamp(0, 1, 33, 0);
            v.stamp(0, 2, day, time + 1);
            Due.is("WRITTEN alone", v.plan(128, 0), 14);
            Counted w = new Counted(400);
            w.text("LABEL");
            w.format(2, 8, 2, 0);
            w.poke(12, 25, 255);
            w.poke(12, 24, 159);
            Due.is("the label has another day", w.fault(), 0);
            Due.is("but no inode", w.plan(128, 0), 0);
        });
    }

    /** A volume whose last free block is used: it can be turned, and back. */
    private static void full(Counted v, int p, int clusters) {
        int last = v.content(0, 1024 * clusters - 1);
        Due.is("a full one", v.plan(p, 0) + 10 * v.plan(p, 6), 0);
        Due.is("run", v.run(0, p), 0);
        Due.is("block 0 stays", v.number(0, 510, 2) + v.number(0, 11, 2) + v.byteAt(1, 511), 43605 + 512 + 0xaa);
        Due.is("the last byte", v.content(0, 1024 * clusters - 1), last);
        Due.is("no free block", v.number(2, 12, 4), 0);
        Due.is("back", v.run(1, p), 0);
        Due.is("fault", v.fault(), 0);
        Due.is("the last byte", v.content(0, 1024 * clusters - 1), last);
    }

    private static void roomRefused() {
        Sentence.holds(22, "15 there are not enough free clusters, or blocks for what is built.", () -> {
            // Eight clusters move; built are the record's three, the root's and the file's indirect one.
            Counted v = withClusters(180);
            Due.is("13 free clusters", v.plan(128, 0), 0);
            Due.is("clusters that move", v.plan(128, 4), 8);
            Due.is("blocks that are built", v.plan(128, 5), 5);
            Due.is("free blocks", v.plan(128, 6), 0);
            v.grow(0, 1, 0);
            Due.is("12 free clusters", v.plan(128, 0), 15);
            Due.is("run", v.run(0, 128), 15);
            Due.is("8 free clusters", withClusters(185).plan(128, 0), 15);
            Due.is("7 free clusters", withClusters(186).plan(128, 0), 15);
            Due.is("no free cluster", withClusters(193).plan(128, 0), 15);
            full(withClusters(180), 128, 180);
            // 1024 sectors: eight clusters move, built are 3 + 1 + 3 blocks, so that 488 of 503 clusters may be the file's.
            Counted w = volume(1024);
            w.file("F");
            w.grow(0, 400000, 1);
            w.grow(0, 488 * 1024 - 400000, 1);
            w.grow(0, 1, 1);
            Due.is("14 free clusters", w.plan(256, 0), 15);
            w.cut(0, 488 * 1024);
            full(w, 256, 488);
        });
        Sentence.holds(22, "15 there are not enough free clusters", () -> {
            // C = 8: blocks enough in free clusters that have fixed ones, but these are no goals.
            Counted v = new Counted(300);
            v.format(8, 9, 1, 0);
            v.file("F");
            v.grow(0, 14 * 4096, 0);
            v.file("G");
            v.grow(1, 2 * 4096, 0);
            v.grow(0, 14 * 4096, 0);
            v.file("H");
            v.grow(2, 2 * 4096, 0);
            v.grow(0, 3 * 4096, 0);
            // F has all but 2, 17, 18, 33 and 34.
            v.remove(2);
            v.remove(1);
            Due.is("eight free blocks that are not fixed, nowhere to move to", v.plan(64, 0), 15);
            v.cut(0, 30 * 4096);
            Due.is("one goal", v.target(64, 2), 37);
            Due.is("and blocks", v.plan(64, 0), 0);
        });
    }

    private static void plan() {
        Sentence.holds(22, "0 the refusal (0 if there is none); if there is none: 1 Q, 2 G, 3 fixed blocks, 4 clusters that move, 5 blocks that are"
                + " BUILT (indirect ones, too), 6 free blocks of groups behind it.", () -> {
            int[] empty = {0, 2, 8, 10, 1, 4, 181};
            int[] full = {0, 2, 8, 10, 8, 5, 0};
            Counted v = volume(400);
            Counted w = withClusters(180);
            for (int what = 0; what <= 6; what++) {
                Due.is("of an empty volume, " + what, v.plan(128, what), empty[what]);
                Due.is("of a full one, " + what, w.plan(128, what), full[what]);
            }
            Due.is("nothing is changed", v.kind() + v.fault(), 1);
            Due.is("the run is as planned", v.run(0, 128), 0);
            Due.is("free blocks", v.number(2, 12, 4), 181);
        });
        Sentence.holds(22, "Of the plan for groups of P blocks, of a table volume", () -> {
            // A plan is not changed by what was planned before it, with another P or another file.
            Counted v = volume(1024);
            Counted w = volume(1024);
            v.file("F");
            w.file("F");
            v.grow(0, 30 * 1024, 0);
            for (int p : new int[] {64, 128, 256}) {
                Due.is("refusal", v.plan(p, 0), 0);
            }
            v.cut(0, 20 * 1024);
            w.grow(0, 20 * 1024, 0);
            for (int p : new int[] {256, 64, 128}) {
                for (int what = 0; what <= 6; what++) {
                    Due.is("plan(" + p + ", " + what + ")", v.plan(p, what), w.plan(p, what));
                }
            }
            int[] due = {0, 2, 8, 10, 3, 5, 511 - 10 - 9 - 1 - 20 - 1};
            for (int what = 0; what <= 6; what++) {
                Due.is("plan(256, " + what + ")", v.plan(256, what), due[what]);
            }
            // F loses its last clusters, which are far behind the lowest free ones.
            v.file("G");
            v.grow(1, 40 * 1024, 0);
            v.grow(0, 10 * 1024, 0);
            v.remove(1);
            Due.is("free with 30 blocks", v.plan(256, 6), due[6] - 10);
            v.cut(0, 20 * 1024);
            Due.is("free with 20 blocks", v.plan(256, 6), due[6]);
        });
        Sentence.holds(22, "NONE for 1 .. 6 with a refusal, for another what, and if there is no table volume.", () -> {
            Counted v = volume(400);
            for (int what = 1; what <= 6; what++) {
                Due.is("with a refusal, " + what, v.plan(64, what), -1);
            }
            for (int what : new int[] {-1, 7, 8, MIN, MAX}) {
                Due.is("what = " + what, v.plan(128, what), -1);
                Due.is("what = " + what + " with a refusal", v.plan(64, what), -1);
            }
            v.run(0, 128);
            for (int what = -1; what <= 7; what++) {
                Due.is("of an inode volume, " + what, v.plan(128, what), -1);
            }
            v.run(1, 128);
            Due.is("of a table volume again", v.plan(128, 0), 0);
            Counted w = new Counted(400);
            for (int what = -1; what <= 7; what++) {
                Due.is("of no volume, " + what, w.plan(128, what), -1);
            }
        });
    }

    private static void target() {
        Sentence.holds(23, "Where a cluster moves by that plan; 0 if it does not; NONE as for plan, and if there is no such cluster.", () -> {
            Counted v = withClusters(2);
            Due.is("one that moves", v.target(128, 2), 5);
            Due.is("a free one", v.target(128, 5), 0);
            Due.is("the last one", v.target(128, 195), 0);
            for (int c : new int[] {-1, 0, 1, 196, MIN, MAX}) {
                Due.is("no such cluster: " + c, v.target(128, c), -1);
            }
            Due.is("with a refusal", v.target(64, 2), -1);
            v.poke(8, 0, 0);
            Due.is("not sound", v.target(128, 2), -1);
            v.poke(8, 0, 248);
            v.run(0, 128);
            Due.is("of an inode volume", v.target(128, 2), -1);
            Due.is("of no volume", new Counted(400).target(128, 2), -1);
        });
    }
}
