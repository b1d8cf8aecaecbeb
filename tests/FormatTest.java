/** Promises 5, 6, 7 and 9: format, poke, kind, byteAt. */
public final class FormatTest {
    public static void main(String[] args) {
        wrongNumbers();
        sectors();
        labels();
        poke();
        pokeBehindRuns();
        kinds();
        bytesOfTables();
        bytesOfInodes();
        formatAgain();
        Due.finish();
    }

    private static void wrongNumbers() {
        VolumeTurner x = new VolumeTurner(400);
        int[][] wrong = {{0, 8, 1}, {1, 8, 1}, {3, 8, 1}, {16, 8, 1}, {-2, 8, 1}, {2, 7, 1}, {2, 65, 1}, {2, -8, 1}, {2, 8, 0},
            {2, 8, 3}, {2, 8, -1}, {Integer.MIN_VALUE, 8, 1}, {2, Integer.MAX_VALUE, 2}};
        for (int[] w : wrong) {
            Due.throwsArgument("format(" + w[0] + ", " + w[1] + ", " + w[2] + ")", () -> x.format(w[0], w[1], w[2], 0));
            Due.is("kind behind it", x.kind(), 0);
        }
        Due.is("format(2, 64, 2)", x.format(2, 64, 2, 0), 166);
        Due.is("format(8, 8, 1)", x.format(8, 8, 1, 0), 48);
        x.poke(9, 100, 77);
        Due.throwsArgument("format(3, 8, 1)", () -> x.format(3, 8, 1, 0));
        Due.is("a wrong format changes nothing", x.byteAt(9, 100), 77);
        Due.is("kind", x.kind(), 1);
    }

    /** What stands on the disk behind format, byte by byte. */
    private static void sectors() {
        Pair p = new Pair("format", 1024);
        for (int c = 2; c <= 8; c *= 2) {
            for (int v = 8; v <= 64; v += 7) {
                for (int y = 1; y <= 2; y++) {
                    p.format(c, v, y, 0x89abcdef);
                    p.fault();
                    p.wholeDisk();
                }
            }
        }
        VolumeTurner x = new VolumeTurner(400);
        Due.is("format", x.format(2, 8, 2, -2), 194);
        Due.is("blanks", Feed.textAt(x, 0, 0, 11), "\0\0\0        ");
        Due.is("bytes of a sector", Feed.number(x, 0, 11, 2), 512);
        Due.is("sectors of a table", Feed.number(x, 0, 36, 4), 2);
        Due.is("root", Feed.number(x, 0, 44, 4), 2);
        Due.is("id", Feed.number(x, 0, 67, 4), 4294967294L);
        Due.is("end of sector 0", Feed.number(x, 0, 510, 2), 43605);
        Due.is("sector 1 at 0", Feed.number(x, 1, 0, 4), 1096897106);
        Due.is("sector 1 at 484", Feed.number(x, 1, 484, 4), 1631679090);
        Due.is("sector 1 at 488", Feed.number(x, 1, 488, 4), 4294967295L);
        Due.is("sector 1 at 492", Feed.number(x, 1, 492, 4), 4294967295L);
        Due.is("sector 1 at 508", Feed.number(x, 1, 508, 4), 2857697280L);
        for (int i = 0; i < 512; i++) {
            Due.is("sector 6 at " + i, x.byteAt(6, i), x.byteAt(0, i));
        }
        for (int table = 8; table <= 10; table += 2) {
            Due.is("entry 0", Feed.number(x, table, 0, 4), 268435448);
            Due.is("entry 1", Feed.number(x, table, 4, 4), 268435455);
            Due.is("entry 2", Feed.number(x, table, 8, 4), 268435455);
            Due.is("entry 3", Feed.number(x, table, 12, 4), 0);
        }
    }

    private static void labels() {
        VolumeTurner x = new VolumeTurner(300);
        String[] right = {"A", "ELEVEN BYTE", "A  B", "0!#$%&'()-@", "^_`{}~", "A  "};
        for (String label : right) {
            Feed.text(x, label);
            Due.is("format with " + label, x.format(4, 8, 1, 0), 72);
            Due.is("its slot", Feed.textAt(x, 9, 0, 12), (label + "           ").substring(0, 11) + "\b");
            Due.is("WRITTEN", Feed.number(x, 9, 22, 4), 33L << 16);
            Due.is("else", Feed.number(x, 9, 12, 4) + Feed.number(x, 9, 16, 4) + Feed.number(x, 9, 26, 4), 0);
            Due.is("fault", x.fault(), 0);
            Due.is("items", x.items(), 0);
        }
        String[] wrong = {" ", " A", "TWELVE BYTES", "a", "A.B", "A\u00e9", "A+", "\0", "A\0", "\"", "A/B"};
        for (String label : wrong) {
            Feed.text(x, label);
            Due.throwsArgument("format with " + label, () -> x.format(4, 8, 1, 0));
        }
        Due.is("the last right one stays", Feed.textAt(x, 9, 0, 2), "A ");
        x.format(4, 8, 1, 0);
        Due.is("no label", x.byteAt(9, 0), 0);
    }

    private static void poke() {
        VolumeTurner x = new VolumeTurner(300);
        Due.is("poke", x.poke(299, 511, -1), true);
        Due.is("its byte", x.byteAt(299, 511), 255);
        Due.is("lowest eight bits", x.poke(0, 0, 0x1234), true);
        Due.is("its byte", x.byteAt(0, 0), 0x34);
        int[][] wrong = {{-1, 0}, {300, 0}, {0, -1}, {0, 512}, {2, 0}, {2, 511}, {7, 0}, {7, 511}, {Integer.MAX_VALUE, 5}};
        for (int[] w : wrong) {
            Due.is("poke(" + w[0] + ", " + w[1] + ")", x.poke(w[0], w[1], 1), false);
            Due.is("byteAt(" + w[0] + ", " + w[1] + ")", x.byteAt(w[0], w[1]), w[0] == 2 || w[0] == 7 ? 0 : -1);
        }
        x.format(2, 8, 1, 0);
        Feed.make(x, "D", true);
        x.enter(0);
        Due.is("a poke that is false", x.poke(2, 0, 0), false);
        Due.is("leaves HERE", x.up(), true);
        x.enter(0);
        Due.is("a poke that is true", x.poke(0, 0, 0), true);
        Due.is("brings HERE to the root", x.up(), false);
    }

    private static void pokeBehindRuns() {
        VolumeTurner x = new VolumeTurner(300);
        Due.throwsState("run", () -> x.run(0, 64));
        Due.is("poke behind a run that throws", x.poke(0, 0, 1), true);
        x.format(2, 8, 1, 0);
        Due.throwsArgument("run(2)", () -> x.run(2, 64));
        Due.is("poke behind it", x.poke(0, 0, 1), true);
        Due.is("a run that is refused", x.run(0, 65), 12);
        Due.is("poke behind it", x.poke(0, 0, 2), false);
        x.format(2, 8, 1, 0);
        Due.is("poke behind format", x.poke(0, 0, 1), true);
        Due.is("a run that does nothing", x.run(1, 64), 0);
        Due.is("poke behind it", x.poke(0, 0, 2), false);
        Due.is("its byte", x.byteAt(0, 0), 1);
        Due.throwsArgument("a wrong format", () -> x.format(1, 8, 1, 0));
        Due.is("poke behind it", x.poke(0, 0, 2), false);
    }

    /** Sector 0 is as told, or not, by every number in it. */
    private static void kinds() {
        Pair p = new Pair("kinds", 300);
        p.kind();
        p.format(4, 8, 2, 5);
        p.poke(8, 1020 - 512, 0);
        for (int at = 0; at < 512; at++) {
            int was = p.x.byteAt(0, at);
            int[] values = {0, 1, 2, 3, 4, 8, 9, 16, 64, 65, 255, was + 1, was - 1};
            for (int value : values) {
                p.poke(0, at, value);
                p.kind();
                p.fault();
            }
            p.poke(0, at, was);
        }
        Due.is("kind", p.kind(), "1");
        int[][] counts = {{11, 1}, {12, 0}, {13, 3}, {13, 0}, {14, 7}, {14, 65}, {16, 0}, {16, 3}, {17, 1}, {18, 1}, {19, 1}, {20, 1},
            {22, 1}, {23, 1}, {32, 45}, {35, 1}, {36, 0}, {36, 33}, {37, 1}, {44, 1}, {44, 75}, {47, 1}, {48, 0}, {50, 5},
            {510, 84}, {511, 171}};
        for (int[] c : counts) {
            int was = p.x.byteAt(0, c[0]);
            p.poke(0, c[0], c[1]);
            Due.is("kind with " + c[1] + " at " + c[0], p.kind(), "0");
            Due.is("fault", p.fault(), "1");
            p.poke(0, c[0], was);
        }
        int[] free = {0, 2, 3, 10, 21, 24, 31, 40, 43, 52, 66, 67, 71, 509};
        for (int at : free) {
            p.poke(0, at, 99);
            Due.is("kind with 99 at " + at, p.kind(), "1");
            Due.is("fault", p.fault(), "0");
        }
        Due.is("the lowest root", p.poke(0, 44, 1) + p.kind(), "10");
        Due.is("the highest root", p.poke(0, 44, 73) + p.kind() + p.fault(), "113");
    }

    private static void bytesOfTables() {
        VolumeTurner x = new VolumeTurner(301);
        Due.is("clusters", x.format(8, 9, 1, 0), 36);
        Due.is("of the root", x.byteAt(10, 0), 0);
        Due.is("of the root's last sector", x.byteAt(17, 511), 0);
        Due.is("of a free cluster", x.byteAt(18, 0), -1);
        Due.is("of the last cluster", x.byteAt(297, 0), -1);
        Due.is("behind the last cluster", x.byteAt(298, 0), -1);
        x.poke(9, 4 * 37, 1);
        Due.is("of a cluster that is not free", x.byteAt(297, 511), 0);
        Due.is("though the volume is not sound", x.fault(), 2);
        Due.is("behind the last cluster", x.byteAt(299, 0), -1);
        x.poke(9, 4 * 37, 0);
        x.poke(9, 4 * 37 + 3, 16);
        Due.is("the highest four bits do not count", x.byteAt(297, 511), -1);
        x.poke(0, 510, 0);
        Due.is("without a volume", x.byteAt(299, 511), 0);
    }

    private static void bytesOfInodes() {
        VolumeTurner x = new VolumeTurner(300);
        x.format(8, 9, 1, 0);
        Feed.make(x, "F", false);
        x.grow(0, 1025, 0);
        x.run(0, 64);
        Due.is("kind", x.kind(), 2);
        Due.is("block 0", x.byteAt(0, 510), 0x55);
        Due.is("sector 1", x.byteAt(1, 0), 0x52);
        Due.is("superblock", Feed.number(x, 2, 56, 2), 61267);
        Due.is("mark", Feed.textAt(x, 7, 0, 4), "TURN");
        Due.is("P of the mark", Feed.number(x, 7, 4, 4), 64);
        Due.is("G of the mark", Feed.number(x, 7, 8, 4), 8);
        Due.is("none such", x.byteAt(300, 0), -1);
        Due.is("none such", x.byteAt(0, 512), -1);
        // The file's cluster 3 (sectors 18 to 25) stays: two of its blocks are used.
        Due.is("the file's block 0", x.byteAt(18, 1), 1);
        Due.is("the file's block 1", x.byteAt(20, 0), 4);
        Due.is("its cluster's other blocks", x.byteAt(22, 0), -1);
        Due.is("its cluster's other blocks", x.byteAt(25, 511), -1);
        Due.is("behind the last cluster", x.byteAt(299, 511), -1);
    }

    /** A new volume has nothing of what was there, and the runs that were told stay. */
    private static void formatAgain() {
        Pair p = new Pair("format again", 500);
        p.tape("OLD".getBytes(java.nio.charset.StandardCharsets.US_ASCII));
        p.format(2, 8, 1, 1);
        p.make("a file with a name", false);
        p.grow(0, 100000, 1);
        p.run(0, 64);
        p.kind();
        p.wholeDisk();
        p.fail(0, 5);
        p.tape("NEW".getBytes(java.nio.charset.StandardCharsets.US_ASCII));
        p.format(4, 32, 2, 2);
        p.kind();
        p.fault();
        p.items();
        p.wholeDisk();
        Due.is("label", Feed.textAt(p.x, 34, 0, 4), "NEW ");
        for (int i = 0; i < 15; i++) {
            Due.is("fail " + i, p.fail(1, 3), "1");
        }
        Due.is("one of them stood already", p.fail(1, 3), "0");
        p.run(0, 64);
        p.wholeDisk();
    }
}
