import java.util.Arrays;

/** The edges that the document names for a table volume, as kind (7) and fault (8) tell them. */
final class TableEdges {
    /** Of the volume that most tests begin with: its one table, its root, its directories D and H. */
    private static final int TABLE = 9;
    private static final int ROOT = 10;
    private static final int D = 16;
    private static final int H = 20;
    /** Its last cluster. */
    private static final int LAST = 124;
    private static final int END = 268435455;
    private static final int LEAST_END = 268435448;

    /** The root's slots. */
    private static final int LABEL_SLOT = 0;
    private static final int FILE = 32;
    private static final int DIRECTORY = 64;
    private static final int PART = 96;
    private static final int LONG = 128;
    private static final int EMPTY = 160;
    private static final int UNSEEN = 192;

    private TableEdges() {
    }

    static void all() {
        sectorZero();
        clusters();
        tableEntries();
        directories();
        dots();
        entries();
        days();
        faults();
        chains();
        orderOfFaults();
    }

    /**
     * 256 sectors, C = 2, V = 9, one table of one sector, A = 10, K = 123. The root has the label, F (2048
     * bytes, clusters 3 and 4), D (cluster 5), "long name" with its part, and the empty file E; D has G
     * (1 byte, cluster 6) and the directory H (cluster 7).
     */
    private static Counted volume() {
        Counted v = new Counted(256);
        v.text("LABEL");
        v.format(2, 9, 1, 0);
        v.file("F");
        v.grow(0, 2048, 1);
        v.directory("D");
        v.file("long name");
        v.file("E");
        v.enter(1);
        v.file("G");
        v.grow(0, 1, 1);
        v.directory("H");
        v.up();
        return v;
    }

    /** The volume's fault with some bytes changed: sector, at, value, and so on. */
    private static void fault(int due, int... pokes) {
        Counted v = volume();
        for (int i = 0; i < pokes.length; i += 3) {
            v.poke(pokes[i], pokes[i + 1], pokes[i + 2]);
        }
        Due.is("fault with " + Arrays.toString(pokes), v.fault(), due);
        Due.is("whether it has a tree", Pair.outcome(() -> v.items()).startsWith("throws"), due != 0);
    }

    /** What becomes of a number in a sector. */
    private static int[] number(int sector, int at, int bytes, long value) {
        int[] all = new int[3 * bytes];
        for (int i = 0; i < bytes; i++) {
            all[3 * i] = sector;
            all[3 * i + 1] = at + i;
            all[3 * i + 2] = (int) (value >> 8 * i) & 255;
        }
        return all;
    }

    private static int[] entry(int c, long value) {
        return number(TABLE, 4 * c, 4, value);
    }

    private static int[] join(int[]... all) {
        int[] joined = new int[0];
        for (int[] one : all) {
            joined = Arrays.copyOf(joined, joined.length + one.length);
            System.arraycopy(one, 0, joined, joined.length - one.length, one.length);
        }
        return joined;
    }

    /** Sector 0 with another number in it. */
    private static void told(int at, int bytes, long[] right, long[] wrong) {
        for (long value : right) {
            Counted v = new Counted(256);
            v.format(2, 9, 1, 0);
            v.pokeNumber(0, at, bytes, value);
            Due.is("kind with " + value + " at " + at, v.kind(), 1);
        }
        for (long value : wrong) {
            Counted v = new Counted(256);
            v.format(2, 9, 1, 0);
            v.pokeNumber(0, at, bytes, value);
            Due.is("kind with " + value + " at " + at, v.kind(), 0);
            Due.is("fault with " + value + " at " + at, v.fault(), 1);
        }
    }

    private static long[] of(long... values) {
        return values;
    }

    private static void sectorZero() {
        Sentence.holds(7, "at 11 (2) 512", () -> told(11, 2, of(512), of(0, 511, 513, 1024, 512 + 32768)));
        Sentence.holds(7, "at 13 (1) C, 2, 4 or 8, sectors of a CLUSTER", () -> {
            told(13, 1, of(2, 4, 8), of(0, 1, 3, 5, 6, 7, 9, 10, 16, 128, 255));
            Counted v = new Counted(256);
            v.format(2, 9, 1, 0);
            v.poke(0, 36, 32);
            v.poke(0, 13, 1);
            Due.is("1 with tables that are long enough", v.kind(), 0);
            v.poke(0, 13, 2);
            Due.is("2 with such tables", v.kind(), 1);
        });
        Sentence.holds(7, "at 14 (2) V, 8 to 64, sectors before the tables",
                () -> told(14, 2, of(8, 9, 63, 64), of(0, 1, 7, 65, 128, 255, 256 + 8, 65535)));
        Sentence.holds(7, "at 16 (1) Y, 1 or 2, TABLES", () -> told(16, 1, of(1, 2), of(0, 3, 4, 129, 255)));
        Sentence.holds(7, "at 17 (2), 19 (2) and 22 (2) 0", () -> {
            told(17, 2, of(0), of(1, 255, 256, 32768));
            told(19, 2, of(0), of(1, 255, 256, 32768));
            told(22, 2, of(0), of(1, 255, 256, 32768));
            told(21, 1, of(0, 1, 255), of());
            told(24, 1, of(0, 1, 255), of());
        });
        Sentence.holds(7, "at 32 (4) N", () -> told(32, 4, of(256), of(0, 255, 257, 258, 512, 256 + 65536, 256 + (1L << 31))));
        Sentence.holds(7, "at 36 (4) Z, 1 to 32, sectors of a table",
                () -> told(36, 4, of(1, 2, 31, 32), of(0, 33, 64, 255, 256 + 1, 65536 + 1, 1 + (1L << 31), 4294967295L)));
        Sentence.holds(7, "at 48 (2) 1", () -> told(48, 2, of(1), of(0, 2, 257, 32769)));
        Sentence.holds(7, "at 50 (2) 6", () -> told(50, 2, of(6), of(0, 5, 7, 262)));
        Sentence.holds(7, "at 510 (2) 43605", () -> told(510, 2, of(43605), of(0, 43604, 43606, 43605 - 256, 43605 + 256)));
        Sentence.holds(7, "the root's first cluster is one.",
                () -> told(44, 4, of(2, 3, LAST), of(0, 1, LAST + 1, 2 + 256, 2 + 65536, 2 + (1L << 31), 4294967295L)));
    }

    private static void clusters() {
        Sentence.holds(8, "at 44 (4) the ROOT's first cluster", () -> {
            for (int root : new int[] {3, LAST}) {
                Counted v = new Counted(256);
                v.format(2, 9, 1, 0);
                v.poke(0, 44, root);
                Due.is("a free cluster", v.fault(), 3);
                v.pokeNumber(TABLE, 4 * root, 4, END);
                Due.is("2 is of no chain now", v.fault(), 6);
                v.pokeNumber(TABLE, 4 * 2, 4, 0);
                Due.is("the root is " + root, v.fault(), 0);
                v.directory("D");
                Due.is("its slot 0", v.textAt(ROOT + 2 * (root - 2), 0, 2), "D ");
                Due.is("D begins with the lowest free one", v.number(ROOT + 2 * (root - 2), 26, 2), 2);
                Due.is("the parent of D is the root: 0", v.number(ROOT, 32 + 26, 2), 0);
                Due.is("fault", v.fault(), 0);
            }
        });
        Sentence.holds(7, "there are K = (N - A) / C clusters (down)", () -> {
            int[][] all = {{256, 30}, {258, 31}, {260, 31}, {264, 31}, {266, 32}};
            for (int[] x : all) {
                Counted v = new Counted(x[0]);
                Due.is("clusters of " + x[0], v.format(8, 9, 1, 0), x[1]);
                v.pokeNumber(TABLE, 4 * (x[1] + 1), 4, END);
                Due.is("the last one counts", v.fault(), 6);
                v.pokeNumber(TABLE, 4 * (x[1] + 1), 4, 0);
                v.pokeNumber(TABLE, 4 * (x[1] + 2), 4, END);
                Due.is("the one behind does not", v.fault(), 0);
            }
        });
        Sentence.holds(7, "and 128 * Z is at least K + 2", () -> {
            Counted v = new Counted(262);
            Due.is("K + 2 is 128", v.format(2, 9, 1, 0), 126);
            Due.is("Z", v.number(0, 36, 4), 1);
            Due.is("kind", v.kind(), 1);
            Counted w = new Counted(264);
            Due.is("K", w.format(2, 9, 1, 0), 126);
            Due.is("Z", w.number(0, 36, 4), 2);
            w.poke(0, 36, 1);
            Due.is("K + 2 is 129, Z is 1", w.kind(), 0);
            w.poke(0, 14, 10);
            Due.is("K + 2 is 128, Z is 1", w.kind(), 1);
            Counted u = new Counted(1024);
            u.format(2, 8, 1, 0);
            u.poke(0, 36, 3);
            Due.is("K + 2 is 508, Z is 3", u.kind(), 0);
            u.poke(0, 36, 32);
            Due.is("more than is needed", u.kind(), 1);
        });
        Sentence.holds(8, "CLUSTERS are 2 .. K + 1; cluster c has the sectors from A + (c - 2) * C on.", () -> {
            fault(0, join(number(ROOT, EMPTY + 26, 2, LAST), number(ROOT, EMPTY + 28, 4, 1), entry(LAST, END)));
            fault(3, join(number(ROOT, EMPTY + 26, 2, LAST + 1), number(ROOT, EMPTY + 28, 4, 1), entry(LAST + 1, END)));
            fault(3, join(number(ROOT, EMPTY + 26, 2, 1), number(ROOT, EMPTY + 28, 4, 1)));
            Counted v = volume();
            v.poke(255, 511, 77);
            v.poke(ROOT, EMPTY + 26, LAST);
            v.pokeNumber(ROOT, EMPTY + 28, 2, 1024);
            v.pokeNumber(TABLE, 4 * LAST, 4, END);
            Due.is("the last byte of the last cluster", v.content(3, 1023), 77);
            Due.is("the first byte of the first one", v.byteAt(10, 0), 'L');
        });
    }

    private static void tableEntries() {
        Sentence.holds(8, "0 the cluster is FREE, 2 .. K + 1 the next one of its CHAIN, 268435448 or more the chain's end (268435455 is written)", () -> {
            fault(0, entry(4, LEAST_END));
            fault(0, entry(4, LEAST_END + 1));
            fault(0, entry(4, END));
            fault(2, entry(4, LEAST_END - 1));
            fault(2, entry(4, 1));
            fault(2, entry(4, LAST + 1));
            fault(3, entry(4, 0));
            fault(0, join(entry(3, LAST), entry(LAST, END), entry(4, 0)));
            fault(3, entry(4, LAST));
            fault(3, entry(4, 2));
            Counted v = volume();
            Due.is("written", v.number(TABLE, 4 * 4, 4), END);
            Due.is("written for the root", v.number(TABLE, 4 * 2, 4), END);
            Due.is("the next one", v.number(TABLE, 4 * 3, 4), 4);
            Due.is("free", v.number(TABLE, 4 * 8, 4), 0);
        });
        Sentence.holds(8, "of which the lowest 28 bits count", () -> {
            fault(0, entry(4, 0xf0000000L + END));
            fault(0, entry(3, 0x10000000L + 4));
            fault(0, entry(8, 0xf0000000L));
            fault(2, entry(8, 0xf0000001L));
            fault(6, entry(8, 0x70000000L + END));
            fault(2, entry(8, 0x08000000L));
        });
        Sentence.holds(8, "Entries 0 and 1 are 268435448 and 268435455 (lowest 28 bits", () -> {
            fault(2, entry(0, LEAST_END - 1));
            fault(2, entry(0, LEAST_END + 1));
            fault(2, entry(0, END));
            fault(2, entry(0, 0));
            fault(0, entry(0, 0xf0000000L + LEAST_END));
            fault(2, entry(1, END - 1));
            fault(2, entry(1, LEAST_END));
            fault(2, entry(1, 0));
            fault(0, entry(1, 0xffffffffL));
        });
        Sentence.holds(17, "the highest four stay as they are when an entry is changed).", () -> {
            Counted v = volume();
            v.poke(TABLE, 4 * 8 + 3, 0xa0);
            v.poke(TABLE, 4 * 9 + 3, 0xf0);
            v.grow(3, 1025, 0);
            Due.is("the next one", v.number(TABLE, 4 * 8, 4), 0xa0000009L);
            Due.is("the end", v.number(TABLE, 4 * 9, 4), 0xffffffffL);
            v.cut(3, 1024);
            Due.is("the end", v.number(TABLE, 4 * 8, 4), 0xafffffffL);
            Due.is("free", v.number(TABLE, 4 * 9, 4), 0xf0000000L);
            v.remove(3);
            Due.is("free", v.number(TABLE, 4 * 8, 4), 0xa0000000L);
        });
        Sentence.holds(8, "If there are two tables, they are alike byte by byte for entries 0 .. K + 1.", () -> {
            unlike(2, 9, 0);
            unlike(2, 9, 3);
            unlike(2, 9, 4 * LAST);
            unlike(2, 9, 4 * LAST + 3);
            unlike(0, 9, 4 * LAST + 4);
            unlike(0, 9, 511);
            unlike(2, 8, 4 * LAST + 3);
            unlike(0, 8, 4 * LAST + 4);
        });
    }

    /** Two tables of one sector, 8 and 9; the same 123 clusters. */
    private static void unlike(int due, int sector, int at) {
        Counted v = new Counted(256);
        v.format(2, 8, 2, 0);
        v.poke(sector, at, v.byteAt(sector, at) ^ 0x80);
        Due.is("fault with another byte " + at + " in sector " + sector, v.fault(), due);
    }

    private static void directories() {
        Sentence.holds(8, "those from the first one on whose byte 0 is 0 are not looked at", () -> {
            fault(4, ROOT, UNSEEN, 1);
            fault(0, ROOT, UNSEEN + 1, 255, ROOT, UNSEEN + 11, 255);
            fault(0, ROOT, UNSEEN + 32, 1);
            fault(0, ROOT + 1, 480, 1);
            fault(6, ROOT, LABEL_SLOT, 0);
            fault(0, ROOT, EMPTY, 0);
            Counted v = new Counted(256);
            v.format(2, 9, 1, 0);
            for (int i = 0; i < 32; i++) {
                v.file("F" + i);
            }
            Due.is("all 32 slots are looked at", v.items(), 32);
            Due.is("the root still has one cluster", v.number(TABLE, 8, 4), END);
            v.poke(11, 480, 0);
            Due.is("the last one is not", v.items(), 31);
        });
        Sentence.holds(8, "one whose byte 0 is 229 is empty.", () -> {
            fault(0, ROOT, EMPTY, 229);
            fault(0, ROOT, LABEL_SLOT, 229);
            fault(0, ROOT, UNSEEN, 229);
            fault(6, ROOT, DIRECTORY, 229);
            fault(4, ROOT, EMPTY, 228);
            fault(4, ROOT, EMPTY, 230);
            // Nothing else of an empty slot counts.
            fault(0, ROOT, UNSEEN, 229, ROOT, UNSEEN + 11, 255, ROOT, UNSEEN + 28, 255);
        });
        Sentence.holds(8, "A slot with 15 in the lowest six bits at 11 (1) is a PART (the two highest may be anything), any other one an ENTRY.", () -> {
            fault(0, ROOT, PART + 11, 15 + 64);
            fault(0, ROOT, PART + 11, 15 + 128);
            fault(0, ROOT, PART + 11, 15 + 192);
            fault(4, ROOT, PART + 11, 14);
            fault(4, ROOT, PART + 11, 15 + 32);
            fault(4, ROOT, PART + 11, 15 + 16);
            fault(4, ROOT, EMPTY + 11, 15);
            fault(4, ROOT, EMPTY + 11, 15 + 64);
            // Without another label 47 and 46 are bits of one: an entry, but no item.
            for (int bits : new int[] {47, 46, 14}) {
                Counted v = new Counted(256);
                v.format(2, 9, 1, 0);
                v.file("E");
                v.poke(ROOT, 11, bits);
                Due.is("fault with " + bits, v.fault(), 0);
                Due.is("items with " + bits, v.items(), 0);
            }
        });
    }

    private static void dots() {
        Sentence.holds(8, "In one that is not the root the first two slots are those of \".\" and \"..\"", () -> {
            for (int slot = 0; slot < 2; slot++) {
                fault(4, D, 32 * slot, 0);
                fault(4, D, 32 * slot, 229);
                fault(4, D, 32 * slot, 'A');
                fault(4, D, 32 * slot + 11, 15);
            }
            fault(4, D, 1, '.');
            fault(4, D, 33, ' ');
            fault(4, D, 34, '.');
            fault(4, H, 32, 0);
            fault(0, H, 64, 0);
            fault(0, H, 64, 229);
            // The root has none such.
            fault(4, ROOT, EMPTY, '.');
        });
        Sentence.holds(8, "(11 bytes at 0: the points, then blanks; at 11 (1) 16; their clusters its own and its parent's first one,"
                + " 0 for the root; nothing else of them counts)", () -> {
            for (int slot = 0; slot < 2; slot++) {
                int at = 32 * slot;
                fault(4, D, at + 10, 'A');
                fault(4, D, at + 10, 0);
                fault(4, D, at + 11, 17);
                fault(4, D, at + 11, 48);
                fault(4, D, at + 11, 0);
                fault(4, D, at + 20, 1);
                fault(4, D, at + 21, 128);
                fault(4, D, at + 27, 1);
                fault(0, D, at + 12, 255, D, at + 13, 255, D, at + 15, 255, D, at + 17, 255, D, at + 19, 255);
                fault(0, D, at + 22, 255, D, at + 24, 0, D, at + 25, 255, D, at + 28, 1, D, at + 31, 255);
            }
            fault(4, D, 26, 4);
            fault(4, D, 26, 0);
            fault(4, D, 32 + 26, 2);
            fault(4, D, 32 + 26, 5);
            fault(4, H, 26, 5);
            fault(4, H, 32 + 26, 0);
            fault(4, H, 32 + 26, 7);
        });
    }

    private static void entries() {
        Sentence.holds(8, "bits: 1 READ ONLY, 2, 4, 8 LABEL, 16 DIRECTORY, 32 (others are 0", () -> {
            fault(0, ROOT, EMPTY + 11, 0);
            fault(0, ROOT, EMPTY + 11, 1 + 2 + 4 + 32);
            fault(4, ROOT, EMPTY + 11, 64);
            fault(4, ROOT, EMPTY + 11, 128);
            fault(4, ROOT, EMPTY + 11, 32 + 64);
            fault(0, ROOT, DIRECTORY + 11, 16);
            fault(0, ROOT, DIRECTORY + 11, 16 + 1 + 2 + 4 + 32);
            fault(4, ROOT, DIRECTORY + 11, 16 + 128);
            fault(0, ROOT, LABEL_SLOT + 11, 8 + 32 + 1 + 2 + 4);
            fault(4, ROOT, LABEL_SLOT + 11, 8 + 64);
        });
        Sentence.holds(8, "LABEL stands without DIRECTORY, at most once, in the root alone, its first cluster and size 0)", () -> {
            fault(4, ROOT, LABEL_SLOT + 11, 8 + 16);
            fault(4, ROOT, EMPTY + 11, 8);
            fault(0, ROOT, EMPTY + 11, 8, ROOT, LABEL_SLOT, 229);
            for (int at : new int[] {20, 21, 26, 27, 28, 29, 30, 31}) {
                fault(4, ROOT, LABEL_SLOT + at, 1);
            }
            Counted v = new Counted(256);
            v.format(2, 9, 1, 0);
            v.directory("D");
            v.enter(0);
            v.file("X");
            v.poke(12, 64 + 11, 8);
            Due.is("a label in a directory", v.fault(), 4);
            v.poke(12, 64 + 11, 32);
            Due.is("a file there", v.fault(), 0);
        });
        Sentence.holds(8, "at 12 (1) anything", () -> {
            fault(0, ROOT, EMPTY + 12, 1);
            fault(0, ROOT, EMPTY + 12, 255);
            fault(0, ROOT, LABEL_SLOT + 12, 255);
        });
        Sentence.holds(8, "at 13 (1) HUNDREDTHS (0 .. 199)", () -> {
            int[] made = {ROOT, EMPTY + 16, 33};
            fault(0, join(made, number(ROOT, EMPTY + 13, 1, 0)));
            fault(0, join(made, number(ROOT, EMPTY + 13, 1, 199)));
            fault(4, join(made, number(ROOT, EMPTY + 13, 1, 200)));
            fault(4, join(made, number(ROOT, EMPTY + 13, 1, 255)));
        });
        Sentence.holds(8, "at 20 (2) and 26 (2) the higher and lower half of its first cluster", () -> {
            fault(0, ROOT, FILE + 26, 3);
            for (int at : new int[] {20, 21, 27}) {
                fault(3, ROOT, FILE + at, 1);
                fault(3, ROOT, FILE + at, 128);
            }
        });
        Sentence.holds(8, "at 28 (4) its SIZE in bytes (0 for directories).", () -> {
            for (int at = 28; at < 32; at++) {
                fault(4, ROOT, DIRECTORY + at, 1);
            }
            fault(4, D, 96 + 28, 1);
        });
    }

    /** The empty file's WRITTEN with other days, all of one volume. */
    private static void written(int at, int[] right, int[] wrong) {
        Counted v = volume();
        for (int value : right) {
            v.pokeNumber(ROOT, EMPTY + at, 2, value);
            Due.is("fault with " + value + " at " + at, v.fault(), 0);
        }
        for (int value : wrong) {
            v.pokeNumber(ROOT, EMPTY + at, 2, value);
            Due.is("fault with " + value + " at " + at, v.fault(), 4);
        }
    }

    private static int day(int year, int month, int day) {
        return 512 * (year - 1980) + 32 * month + day;
    }

    private static void days() {
        Sentence.holds(8, "A DAY: 512 * (year - 1980) + 32 * month + day", () -> {
            int[] last = {31, 28, 31, 30, 31, 30, 31, 31, 30, 31, 30, 31};
            for (int month = 1; month <= 12; month++) {
                int end = last[month - 1];
                int[] right = {day(1981, month, 1), day(1981, month, end), day(2107, month, end)};
                int[] wrong = {day(1981, month, 0), end == 31 ? 0 : day(1981, month, end + 1), day(2107, month, 0)};
                written(24, right, wrong);
            }
            written(24, new int[] {33, day(2107, 12, 31)}, new int[] {0, 1, 32, day(1980, 0, 31), day(1980, 13, 1), day(1980, 14, 1),
                day(1980, 15, 31), day(2107, 13, 1), 65535});
        });
        Sentence.holds(8, "They are as told if there is such a day (with leap years as in use: by 4, not by 100, but by 400) and time.", () -> {
            int[] leap = {1980, 1984, 1996, 2000, 2004, 2096, 2104};
            int[] other = {1981, 1982, 1983, 1990, 1999, 2001, 2098, 2100, 2101, 2106, 2107};
            int[] right = new int[leap.length + other.length];
            int[] wrong = new int[leap.length + other.length];
            for (int i = 0; i < right.length; i++) {
                int year = i < leap.length ? leap[i] : other[i - leap.length];
                right[i] = day(year, 2, i < leap.length ? 29 : 28);
                wrong[i] = right[i] + 1;
            }
            written(24, right, wrong);
        });
        Sentence.holds(8, "a TIME: 2048 * hour + 32 * minute + half of the seconds (down).", () -> {
            int[] right = {0, 29, 32 * 59, 32 * 59 + 29, 2048 * 23, 2048 * 23 + 32 * 59 + 29};
            int[] wrong = {30, 31, 32 * 60, 32 * 63, 2048 * 24, 2048 * 31, 2048 * 23 + 32 * 60, 2048 * 23 + 30, 65535};
            written(22, right, wrong);
        });
        Sentence.holds(8, "The day of MADE, and that of READ, may be 0 instead (each by itself); what goes with a day 0 is 0, too.", () -> {
            int[] made = {ROOT, EMPTY + 16, 33};
            int[] read = {ROOT, EMPTY + 18, 33};
            fault(0);
            fault(0, made);
            fault(0, read);
            fault(0, join(made, read));
            fault(4, ROOT, EMPTY + 14, 1);
            fault(4, ROOT, EMPTY + 15, 8);
            fault(4, ROOT, EMPTY + 13, 1);
            fault(4, join(read, number(ROOT, EMPTY + 14, 2, 1)));
            fault(0, join(made, number(ROOT, EMPTY + 14, 2, 1), number(ROOT, EMPTY + 13, 1, 1)));
            fault(4, join(made, number(ROOT, EMPTY + 14, 2, 30)));
            fault(4, ROOT, EMPTY + 16, 32);
            fault(4, ROOT, EMPTY + 18, 32);
            fault(4, ROOT, EMPTY + 24, 0);
            fault(4, ROOT, LABEL_SLOT + 24, 0);
        });
    }

    private static void faults() {
        Sentence.holds(8, "1 sector 0 is not as told.", () -> {
            fault(1, 0, 12, 0);
            fault(1, 0, 44, 1);
            fault(1, 0, 511, 0);
            fault(0, 0, 0, 255, 0, 509, 255, 6, 11, 9, 1, 0, 0);
        });
        Sentence.holds(8, "2 an entry of the tables is unlike in the other table, or, of entries 0 and 1, not as told, or, of 2 .. K + 1, is 1,"
                + " or K + 2 .. 268435447.", () -> {
            fault(2, entry(2, 1));
            fault(2, entry(LAST, 1));
            fault(0, entry(LAST + 1, 1));
            fault(2, entry(8, LAST + 1));
            fault(2, entry(8, LEAST_END - 1));
            fault(6, entry(8, LAST));
            fault(6, entry(8, 2));
            fault(6, entry(8, LEAST_END));
            fault(0, entry(LAST + 1, LEAST_END - 1));
        });
        Sentence.holds(8, "4 the slot is not as told, or a PART without what belongs to it (a label has no parts), or \".\" or \"..\""
                + " is missing or wrong", () -> {
            fault(4, ROOT, LONG, 229);
            fault(4, ROOT, LONG, 0);
            fault(4, ROOT, LONG + 11, 15);
            fault(4, ROOT, LONG + 11, 8, ROOT, LABEL_SLOT, 229);
            fault(0, ROOT, PART, 229, ROOT, LONG + 11, 8, ROOT, LABEL_SLOT, 229);
            partAtTheEnd();
        });
        Sentence.holds(8, "5 its name, or short name, is that of an entry before", () -> {
            fault(5, ROOT, EMPTY, 'D');
            fault(5, ROOT, EMPTY, 'F');
            fault(0, ROOT, EMPTY, 'G');
            fault(5, D, 96, 'G');
            fault(0, D, 96, 'E');
            // A name that is alike, with another short name: "long name" becomes "e" with E behind it.
            fault(5, join(number(ROOT, PART + 1, 2, 'e'), number(ROOT, PART + 3, 2, 0), number(ROOT, PART + 5, 4, 0xffffffffL),
                    number(ROOT, PART + 9, 2, 65535), number(ROOT, PART + 14, 4, 0xffffffffL), number(ROOT, PART + 18, 2, 65535),
                    number(ROOT, PART + 20, 2, 65535), number(ROOT, PART + 22, 2, 65535)));
        });
        Sentence.holds(8, "6 a cluster is not free and in no chain.", () -> {
            fault(6, entry(8, END));
            fault(6, entry(LAST, END));
            fault(0, entry(LAST + 1, END));
            fault(6, join(entry(8, 9), entry(9, 8)));
            fault(6, ROOT, FILE, 229);
        });
    }

    /** A part as the last slot of a chain, behind which nothing can belong to it. */
    private static void partAtTheEnd() {
        Counted v = new Counted(256);
        v.format(2, 9, 1, 0);
        for (int i = 0; i < 30; i++) {
            v.file("F" + i);
        }
        v.file("x");
        Due.is("its entry is the last slot", v.textAt(11, 480, 3), "X~1");
        Due.is("fault", v.fault(), 0);
        v.poke(11, 448, 229);
        v.poke(11, 480, 0x41);
        v.poke(11, 480 + 11, 15);
        Due.is("a part is the last slot", v.fault(), 4);
    }

    private static void chains() {
        Sentence.holds(8, "3 its chain comes to a free cluster, or to one that a chain before, or itself, has (or its beginning is no cluster)", () -> {
            fault(3, entry(2, 0));
            fault(3, entry(2, 8));
            fault(3, entry(2, 2));
            fault(3, entry(5, 5));
            fault(3, entry(5, 3));
            fault(3, entry(5, 2));
            fault(3, entry(5, 8));
            for (int begin : new int[] {0, 1, LAST + 1, 65535, 8, 3}) {
                fault(3, number(ROOT, DIRECTORY + 26, 2, begin));
            }
            fault(3, ROOT, DIRECTORY + 20, 1);
            fault(3, ROOT, DIRECTORY + 21, 255);
            fault(0, join(entry(5, 8), entry(8, END)));
        });
        Sentence.holds(8, "3 a file's chain, likewise, or its clusters are not as many as its size wants"
                + " (0: its first cluster is 0; else size / (512 * C), up).", () -> {
            long[][] sizes = {{0, 3}, {1, 3}, {1024, 3}, {1025, 0}, {2047, 0}, {2048, 0}, {2049, 3}, {65536 + 2048, 3}, {4294967295L, 3},
                {(1L << 31) + 2048, 3}};
            for (long[] size : sizes) {
                fault((int) size[1], number(ROOT, FILE + 28, 4, size[0]));
            }
            fault(3, join(number(ROOT, EMPTY + 26, 2, 8), entry(8, END)));
            fault(3, ROOT, EMPTY + 26, 1);
            fault(3, ROOT, EMPTY + 20, 1);
            fault(3, ROOT, EMPTY + 28, 1);
            fault(0, join(number(ROOT, EMPTY + 28, 4, 1), number(ROOT, EMPTY + 26, 2, 8), entry(8, END)));
            fault(0, join(number(ROOT, EMPTY + 28, 4, 1024), number(ROOT, EMPTY + 26, 2, 8), entry(8, END)));
            fault(3, join(number(ROOT, EMPTY + 28, 4, 1025), number(ROOT, EMPTY + 26, 2, 8), entry(8, END)));
            fault(3, join(number(ROOT, EMPTY + 28, 4, 1), number(ROOT, EMPTY + 26, 2, 4), entry(3, END)));
            fault(3, entry(4, 4));
            fault(3, entry(4, 3));
            fault(3, entry(3, 8));
        });
    }

    private static void orderOfFaults() {
        Sentence.holds(8, "SOUND is a table volume without a FAULT; the first of", () -> {
            int[] one = {0, 511, 0};
            int[] two = entry(9, 1);
            int[] stray = entry(8, END);
            int[] badSlot = {ROOT, EMPTY + 11, 64};
            fault(1, join(one, two, badSlot, stray));
            fault(2, join(two, entry(2, 0), badSlot, stray));
            fault(3, join(entry(2, 2), badSlot, stray));
            fault(4, join(badSlot, stray));
            fault(5, join(number(ROOT, EMPTY, 1, 'D'), stray));
            fault(6, stray);
        });
        Sentence.holds(8, "Then, directory by directory, in the order of the tree's ITEMS", () -> {
            // The root's last slot comes before D's chain, D's slots before H's.
            fault(4, join(entry(5, 5), number(ROOT, EMPTY + 11, 1, 64)));
            fault(3, join(entry(5, 5), number(D, 64 + 11, 1, 64)));
            fault(4, join(number(D, 64 + 11, 1, 64), entry(7, 7)));
            fault(3, join(entry(7, 7), number(H, 0, 1, 0)));
        });
        Sentence.holds(8, "then by slots, in order", () -> {
            // F's chain (slot 1) before slot 2; slot 3 before E's chain (slot 5); of one slot 4, 5, then 3.
            fault(3, join(number(ROOT, FILE + 26, 2, 0), number(ROOT, DIRECTORY + 11, 1, 64)));
            fault(4, join(number(ROOT, PART + 12, 1, 1), number(ROOT, EMPTY + 28, 1, 1)));
            fault(5, join(number(ROOT, EMPTY, 1, 'D'), number(ROOT, EMPTY + 28, 1, 1)));
            fault(4, join(number(ROOT, EMPTY, 1, 'D'), number(ROOT, EMPTY + 28, 1, 1), number(ROOT, EMPTY + 11, 1, 64)));
            fault(3, number(ROOT, EMPTY + 28, 1, 1));
        });
    }
}
