/** Promises 22 and 23: plan, target. */
public final class PlanTest {
    public static void main(String[] args) {
        noTable();
        numbers();
        oddStart();
        groupSizes();
        lastGroup();
        firstGroup();
        manyItems();
        names();
        times();
        fullDisk();
        noGoals();
        fullBlocks();
        order();
        indirect();
        Due.finish();
    }

    private static void allNone(VolumeTurner x, int refusal) {
        Due.is("plan(64, 0)", x.plan(64, 0), refusal);
        for (int what = 1; what <= 6; what++) {
            Due.is("plan(64, " + what + ")", x.plan(64, what), -1);
        }
        for (int cluster = 0; cluster < 9; cluster++) {
            Due.is("target(64, " + cluster + ")", x.target(64, cluster), -1);
        }
    }

    private static void noTable() {
        VolumeTurner x = new VolumeTurner(300);
        allNone(x, -1);
        x.format(8, 9, 1, 0);
        x.poke(9, 0, 0);
        allNone(x, 2);
        x.poke(9, 0, 248);
        x.poke(10, 0, 1);
        allNone(x, 4);
        x.poke(10, 0, 0);
        x.poke(0, 510, 0);
        allNone(x, -1);
        x.poke(0, 510, 0x55);
        Due.is("run", x.run(0, 64), 0);
        allNone(x, -1);
        Due.is("back", x.run(1, 64), 0);
        Due.is("plan", x.plan(64, 0), 0);
    }

    /** 150 blocks, clusters of four blocks from block 5 on, nothing in the root, cluster 2. */
    private static void numbers() {
        VolumeTurner x = new VolumeTurner(300);
        x.format(8, 9, 1, 0);
        int[] due = {0, 3, 8, 15, 1, 4, 124};
        for (int what = 0; what <= 6; what++) {
            Due.is("plan(64, " + what + ")", x.plan(64, what), due[what]);
        }
        Due.is("plan(64, 7)", x.plan(64, 7), -1);
        Due.is("plan(64, -1)", x.plan(64, -1), -1);
        Due.is("the root moves", x.target(64, 2), 3);
        Due.is("a free cluster does not", x.target(64, 3), 0);
        Due.is("the last one", x.target(64, 37), 0);
        for (int cluster : new int[] {-1, 0, 1, 38, Integer.MIN_VALUE, Integer.MAX_VALUE}) {
            Due.is("no such cluster", x.target(64, cluster), -1);
        }
        Feed.make(x, "F", false);
        x.grow(0, 100000, 1);
        // Clusters 3 to 27 are the file's: 17 and 18 have the blocks 65 to 69, 2 has 5 to 7.
        Due.is("clusters that move", x.plan(64, 4), 3);
        Due.is("the root moves", x.target(64, 2), 28);
        Due.is("cluster 17 moves", x.target(64, 17), 29);
        Due.is("cluster 18 moves", x.target(64, 18), 30);
        Due.is("cluster 16 stays", x.target(64, 16), 0);
        Due.is("built: three, the root, the file's indirect one", x.plan(64, 5), 5);
        Due.is("free", x.plan(64, 6), 149 - 15 - 6 - 5 - 98);
    }

    private static void oddStart() {
        VolumeTurner x = new VolumeTurner(300);
        x.format(8, 8, 1, 0);
        allNone(x, 11);
        Due.is("before the group's size", x.plan(7, 0), 11);
        Due.is("run", x.run(0, 64), 11);
        Due.is("kind", x.kind(), 1);
    }

    private static void groupSizes() {
        VolumeTurner x = new VolumeTurner(1024);
        x.format(2, 8, 2, 0);
        int[] wrong = {0, 1, -1, 32, 63, 65, 127, 129, 255, 257, 512, -64, Integer.MIN_VALUE, Integer.MAX_VALUE, 64 << 16};
        for (int p : wrong) {
            Due.is("plan(" + p + ")", x.plan(p, 0), 12);
            Due.is("plan(" + p + ")", x.plan(p, 1), -1);
            Due.is("target(" + p + ")", x.target(p, 2), -1);
        }
        int[][] right = {{64, 8}, {128, 4}, {256, 2}};
        for (int[] p : right) {
            Due.is("plan(" + p[0] + ")", x.plan(p[0], 0), 0);
            Due.is("groups", x.plan(p[0], 1), p[1]);
        }
    }

    private static void lastGroup() {
        for (int sectors = 256; sectors <= 420; sectors += 2) {
            Pair p = new Pair("last group " + sectors, sectors);
            p.format(2, 8, 2, 0);
            int last = (sectors / 2 - 1) % 64;
            Due.is("last group with " + last, p.plan(64, 0), last == 0 || last >= 13 ? "0" : "12");
            p.plan(128, 0);
            p.plan(64, 6);
        }
    }

    /** Group 0 needs A / 2 + J + 9 blocks: with more sectors of a table clusters begin later. */
    private static void firstGroup() {
        for (int z = 20; z <= 25; z++) {
            Pair p = new Pair("first group " + z, 512);
            p.format(2, 64, 2, 0);
            for (int at = 0; at < 12; at++) {
                p.poke(64 + z, at, p.x.byteAt(64, at));
            }
            p.poke(0, 36, z);
            Due.is("fault", p.fault(), "0");
            Due.is("A / 2 = " + (32 + z), p.plan(64, 0), z <= 22 ? "0" : "12");
            Due.is("with larger groups", p.plan(128, 0), "0");
            p.run(0, 64);
            p.wholeDisk();
        }
    }

    private static void manyItems() {
        Pair p = new Pair("many items", 512);
        p.format(2, 8, 2, 0);
        for (int i = 1; i <= 130; i++) {
            p.make("N" + i, false);
            if (i == 21 || i == 22 || i == 53 || i == 54) {
                p.plan(64, 2);
            }
        }
        Due.is("inodes of a group: 141 in 4 groups", p.plan(64, 2), "40");
        Due.is("in 2", p.plan(128, 2), "72");
        Due.is("in 1", p.plan(256, 2), "144");
        for (int what = 0; what <= 6; what++) {
            p.plan(64, what);
            p.plan(128, what);
            p.plan(256, what);
        }
        p.run(0, 64);
        p.wholeDisk();
    }

    private static void names() {
        Pair p = new Pair("names", 400);
        p.format(2, 8, 2, 0);
        p.make("x".repeat(255), false);
        Due.is("255 bytes", p.plan(128, 0), "0");
        p.make("x".repeat(253) + "\u00e9", false);
        Due.is("255 bytes", p.plan(128, 0), "0");
        p.make("x".repeat(254) + "\u00e9", false);
        Due.is("256 bytes", p.plan(128, 0), "13");
        p.remove(2);
        Due.is("without it", p.plan(128, 0), "0");
        p.make("d", true);
        p.enter(2);
        p.make("\u4e2d".repeat(86), true);
        Due.is("258 bytes in a directory", p.plan(128, 0), "13");
        p.remove(0);
        p.make("\u4e2d".repeat(85), true);
        p.make(".turned", false);
        Due.is(".turned in a directory", p.plan(128, 0), "0");
        p.up();
        p.make(".TurneD", false);
        Due.is(".TurneD in the root", p.plan(128, 0), "13");
        p.remove(3);
        p.make(".turned1", false);
        p.make("TURNED", false);
        p.make(".TURNEE", false);
        p.make("-TURNED", false);
        Due.is("others", p.plan(128, 0), "0");
        p.run(0, 128);
        p.wholeDisk();
    }

    private static void times() {
        Pair p = new Pair("times", 400);
        p.format(2, 8, 2, 0);
        p.make("d", true);
        int day = 126 * 512 + 2 * 32 + 7;
        int time = 6 * 2048 + 28 * 32 + 7;
        p.stamp(0, 2, day, time);
        Due.is("WRITTEN at 4294967294", p.plan(128, 0), "0");
        p.stamp(0, 2, day, time + 1);
        Due.is("WRITTEN at 4294967296", p.plan(128, 0), "14");
        p.stamp(0, 2, 33, 0);
        p.stamp(0, 0, day, time);
        p.stamp(0, 3, 0, 199);
        Due.is("MADE at 4294967295", p.plan(128, 0), "0");
        p.stamp(0, 0, day, time + 1);
        Due.is("MADE at 4294967297", p.plan(128, 0), "14");
        p.stamp(0, 0, 33, 0);
        p.stamp(0, 1, day, 0);
        Due.is("READ on the day", p.plan(128, 0), "0");
        p.stamp(0, 1, day + 1, 0);
        Due.is("READ a day later", p.plan(128, 0), "14");
        p.stamp(0, 1, day, 0);
        p.run(0, 128);
        p.wholeDisk();
    }

    /** From a file with room enough to one that leaves no free cluster. */
    private static void fullDisk() {
        for (int c = 2; c <= 8; c *= 2) {
            Pair p = new Pair("full disk " + c, 400);
            p.format(c, 8, 2, 0);
            p.make("F", false);
            int free = Integer.parseInt(p.format(c, 8, 2, 0)) - 1;
            p.make("F", false);
            int refused = 0;
            for (int clusters = Math.max(free - 40, 1); clusters <= free; clusters++) {
                p.cut(0, 0);
                p.grow(0, clusters * 512 * c, 1);
                refused += p.plan(128, 0).equals("15") ? 1 : 0;
                for (int what = 1; what <= 6; what++) {
                    p.plan(128, what);
                }
                p.target(128, 2);
            }
            Due.is("refused", refused > 0, true);
            p.run(0, 128);
            p.wholeDisk();
        }
    }

    /** Free clusters that have fixed blocks are no goals, though what is built has room in them. */
    private static void noGoals() {
        Pair p = new Pair("no goals", 1024);
        p.format(8, 9, 1, 0);
        p.make("A", false);
        Due.is("plan", p.plan(64, 0), "0");
        String[] names = {"B", "C", "D", "E", "F", "G", "H"};
        // Of clusters of four blocks from block 5 on, 18 has the blocks 69 to 72: an inode block and three others.
        for (int i = 0; i < names.length; i++) {
            p.make(names[i], false);
        }
        int free = 125;
        for (int c = 3; c <= free; c++) {
            int group = (c - 2) / 16;
            boolean fixed = (c - 2) % 16 == 0 && group >= 1 && group <= 7;
            p.grow(fixed ? group : 0, 4096, c);
        }
        for (int k = 7; k >= 1; k--) {
            Due.is("plan", p.plan(64, 0), "15");
            p.remove(k);
        }
        Due.is("rooms, but no goals", p.plan(64, 0), "15");
        p.target(64, 2);
        p.cut(0, 4096 * 100);
        p.plan(64, 0);
        p.run(0, 64);
        p.wholeDisk();
    }

    /** Blocks of a directory that its entries fill to the last byte. */
    private static void fullBlocks() {
        for (int length = 1; length <= 16; length += 3) {
            Pair p = new Pair("full blocks " + length, 1024);
            p.format(4, 8, 2, 0);
            p.make("d", true);
            p.enter(0);
            for (int i = 0; i < 200; i++) {
                p.make(("" + (100 + i) + "ABCDEFGHIJKLMNOPQ").substring(0, 3 + length), false);
                p.plan(256, 5);
            }
            Due.is("plan", p.plan(256, 0), "0");
            p.run(0, 256);
            p.wholeDisk();
        }
    }

    /** 11 before 12 before 13 before 14 before 15, and all behind the faults. */
    private static void order() {
        Pair p = new Pair("order", 400);
        p.format(2, 9, 2, 0);
        p.make(".turned", false);
        p.stamp(0, 2, 127 * 512 + 33, 0);
        p.make("F", false);
        p.grow(1, 190 * 1024, 0);
        Due.is("plan", p.plan(3, 0), "11");
        p.poke(9, 0, 0);
        Due.is("plan", p.plan(3, 0), "2");
        p.format(2, 8, 2, 0);
        p.make(".turned", false);
        p.stamp(0, 2, 127 * 512 + 33, 0);
        p.make("F", false);
        p.grow(1, 190 * 1024, 0);
        Due.is("plan", p.plan(64, 0), "12");
        Due.is("plan", p.plan(128, 0), "13");
        p.remove(0);
        p.stamp(0, 2, 127 * 512 + 33, 0);
        Due.is("plan", p.plan(128, 0), "14");
        p.stamp(0, 2, 33, 0);
        Due.is("plan", p.plan(128, 0), "15");
        p.cut(0, 10);
        Due.is("plan", p.plan(128, 0), "0");
    }

    /** Indirect blocks of files, of the record and of directories. */
    private static void indirect() {
        int[] blocks = {12, 13, 268, 269, 300};
        for (int b : blocks) {
            VolumeTurner x = new VolumeTurner(1024);
            x.format(2, 8, 2, 0);
            Feed.make(x, "F", false);
            x.grow(0, b * 1024, 0);
            // Three of the record, the root's one (the record has 3 + 5 + 1 blocks).
            Due.is("built with " + b, x.plan(128, 5), 4 + (b <= 12 ? 0 : b <= 268 ? 1 : 3));
        }
        Pair p = new Pair("record", 1024);
        p.format(8, 9, 1, 0);
        for (int i = 0; i < 70; i++) {
            p.make("D" + i, true);
        }
        p.plan(256, 0);
        for (int what = 1; what <= 6; what++) {
            p.plan(256, what);
        }
        p.run(0, 256);
        p.about(70, 5);
        for (int at = 0; at < 300000; at += 1023) {
            p.content(70, at);
        }
        p.wholeDisk();
        Pair q = new Pair("directory", 1024);
        q.format(2, 8, 2, 0);
        q.make("d", true);
        q.enter(0);
        for (int i = 0; i < 70; i++) {
            q.make("y".repeat(240) + i, i % 5 == 0);
        }
        q.run(0, 128);
        q.enter(0);
        q.allHere();
        q.wholeDisk();
        q.run(1, 128);
        q.wholeDisk();
    }
}
