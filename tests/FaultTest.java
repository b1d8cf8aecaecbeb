import java.util.ArrayList;
import java.util.List;

/** Promise 8: fault, with every fault that the document names, and which one comes first. */
public final class FaultTest {
    /** Of the volume that the tests begin with: its table and its clusters (C = 2, A = 12). */
    private static final int TABLE = 8;
    private static final int ROOT = 12;

    public static void main(String[] args) {
        none();
        tables();
        chains();
        entries();
        labels();
        days();
        shortNames();
        parts();
        dots();
        names();
        strays();
        firstOfAll();
        everyByte();
        Due.finish();
    }

    /**
     * A table volume with two tables of two sectors and, in its root: slot 0 the label, slots 1 to 3
     * "some long file name" with its parts (cluster 3, 4), slot 4 the directory D (cluster 5), slot 5
     * the empty file E. D has the file F (cluster 6) and the directory G (cluster 7).
     */
    private static Pair volume() {
        Pair p = new Pair("faults", 400);
        p.tape("LABEL".getBytes(java.nio.charset.StandardCharsets.US_ASCII));
        p.format(2, 8, 2, 0);
        p.make("some long file name", false);
        p.grow(0, 2000, 1);
        p.make("D", true);
        p.make("E", false);
        p.enter(1);
        p.make("F", false);
        p.grow(0, 1024, 1);
        p.make("G", true);
        p.up();
        Due.is("fault", p.fault(), "0");
        return p;
    }

    private static int cluster(int c) {
        return ROOT + 2 * (c - 2);
    }

    /** The fault with some bytes changed: sector, at, value; then they are put back. */
    private static void due(Pair p, String fault, int... pokes) {
        int[] was = new int[pokes.length];
        StringBuilder text = new StringBuilder("fault with");
        for (int i = 0; i < pokes.length; i += 3) {
            was[i] = p.x.byteAt(pokes[i], pokes[i + 1]);
            Due.is("poke", p.poke(pokes[i], pokes[i + 1], pokes[i + 2]), "1");
            text.append(" ").append(pokes[i]).append("/").append(pokes[i + 1]).append(":").append(pokes[i + 2]);
        }
        Due.is(text.toString(), p.fault(), fault);
        p.items();
        p.up();
        p.plan(64, 0);
        for (int i = pokes.length - 3; i >= 0; i -= 3) {
            p.poke(pokes[i], pokes[i + 1], was[i]);
        }
        Due.is("fault with all put back", p.fault(), "0");
    }

    /** Both tables at once: entry c becomes value. */
    private static int[] link(int c, int value, int... more) {
        List<Integer> all = new ArrayList<>();
        for (int table = TABLE; table <= TABLE + 2; table += 2) {
            for (int i = 0; i < 4; i++) {
                all.add(table + c / 128);
                all.add(c % 128 * 4 + i);
                all.add(value >> 8 * i & 255);
            }
        }
        for (int x : more) {
            all.add(x);
        }
        return all.stream().mapToInt(x -> x).toArray();
    }

    private static void none() {
        VolumeTurner x = new VolumeTurner(300);
        Due.is("fault of nothing", x.fault(), 1);
        Due.throwsState("items", () -> x.items());
        x.format(2, 8, 1, 0);
        Due.is("fault of a new volume", x.fault(), 0);
        x.run(0, 64);
        Due.is("fault of a refused run's volume", x.fault(), 0);
    }

    private static void tables() {
        Pair p = volume();
        due(p, "2", TABLE, 0, 247);
        due(p, "2", link(0, 268435455));
        due(p, "2", link(1, 268435448));
        due(p, "0", link(0, 0xf0000000 | 268435448));
        due(p, "0", link(1, 0x7fffffff));
        due(p, "2", TABLE, 100, 1);
        due(p, "2", TABLE + 2, 100, 1);
        due(p, "2", TABLE + 2, 4 * 5 + 3, 0xff);
        due(p, "2", link(9, 1));
        due(p, "2", link(9, 196));
        due(p, "2", link(9, 268435447));
        due(p, "6", link(9, 195));
        due(p, "6", link(9, 268435448));
        due(p, "2", link(195, 1));
        due(p, "0", link(9, 0xf0000000));
        due(p, "0", TABLE + 1, 4 * (196 - 128), 1);
        due(p, "0", link(4, 268435448));
        due(p, "0", link(4, 0xafffffff));
    }

    private static void chains() {
        Pair p = volume();
        due(p, "3", link(2, 0));
        due(p, "3", link(2, 9));
        due(p, "3", link(2, 2));
        due(p, "3", link(3, 268435455));
        due(p, "3", link(4, 5));
        due(p, "3", link(4, 3));
        due(p, "3", link(4, 0));
        due(p, "0", ROOT, 3 * 32 + 28, 0);
        due(p, "0", ROOT, 3 * 32 + 29, 8, ROOT, 3 * 32 + 28, 0);
        due(p, "3", ROOT, 3 * 32 + 29, 4, ROOT, 3 * 32 + 28, 0);
        due(p, "0", ROOT, 3 * 32 + 29, 4, ROOT, 3 * 32 + 28, 1);
        due(p, "3", ROOT, 3 * 32 + 29, 8, ROOT, 3 * 32 + 28, 1);
        due(p, "3", ROOT, 3 * 32 + 31, 255);
        due(p, "3", ROOT, 3 * 32 + 26, 0);
        due(p, "3", ROOT, 3 * 32 + 26, 1);
        due(p, "3", ROOT, 3 * 32 + 27, 1);
        due(p, "3", ROOT, 3 * 32 + 20, 1);
        due(p, "3", ROOT, 3 * 32 + 21, 128);
        due(p, "3", ROOT, 4 * 32 + 26, 0);
        due(p, "3", ROOT, 4 * 32 + 26, 196);
        due(p, "3", ROOT, 4 * 32 + 26, 9);
        due(p, "3", ROOT, 4 * 32 + 26, 3);
        due(p, "3", ROOT, 4 * 32 + 21, 255);
        due(p, "3", ROOT, 5 * 32 + 26, 9);
        due(p, "3", ROOT, 5 * 32 + 28, 1);
        due(p, "3", ROOT, 5 * 32 + 26, 3, ROOT, 5 * 32 + 28, 1);
        due(p, "3", cluster(5), 2 * 32 + 26, 5);
        due(p, "3", 0, 44, 9);
    }

    private static void entries() {
        Pair p = volume();
        due(p, "4", ROOT, 5 * 32 + 11, 64);
        due(p, "4", ROOT, 5 * 32 + 11, 128 | 32);
        due(p, "0", ROOT, 5 * 32 + 11, 0);
        due(p, "0", ROOT, 5 * 32 + 11, 1 | 2 | 4 | 32);
        due(p, "4", ROOT, 4 * 32 + 28, 1);
        due(p, "4", ROOT, 4 * 32 + 31, 1);
        due(p, "0", ROOT, 5 * 32 + 12, 99);
        due(p, "0", ROOT, 5 * 32, 229);
        due(p, "0", ROOT, 5 * 32, 0);
        due(p, "6", ROOT, 4 * 32, 229);
        due(p, "6", ROOT, 0, 0);
        // Behind the first slot whose byte 0 is 0 nothing is looked at.
        due(p, "0", ROOT, 7 * 32, 1, ROOT, 7 * 32 + 11, 255);
        due(p, "4", ROOT, 6 * 32, 1);
    }

    private static void labels() {
        Pair p = volume();
        due(p, "4", ROOT, 11, 8 | 16);
        due(p, "0", ROOT, 11, 8 | 32 | 1 | 2 | 4);
        due(p, "4", ROOT, 11, 8 | 1 | 2 | 4);
        due(p, "4", ROOT, 11, 8 | 64);
        due(p, "4", ROOT, 20, 1);
        due(p, "4", ROOT, 26, 9);
        due(p, "4", ROOT, 28, 1);
        due(p, "4", ROOT, 0, 32);
        due(p, "0", ROOT, 1, 32);
        due(p, "0", ROOT, 9, 'X');
        due(p, "4", ROOT, 1, 'a');
        due(p, "4", ROOT, 24, 0);
        due(p, "4", ROOT, 13, 1);
        due(p, "4", ROOT, 5 * 32 + 11, 8);
        due(p, "4", cluster(5), 2 * 32 + 11, 8, cluster(5), 2 * 32 + 26, 0, cluster(5), 2 * 32 + 29, 0);
        labelsAlone();
        // A label does not count as a name: E becomes LABEL.
        due(p, "0", ROOT, 161, 'A', ROOT, 162, 'B', ROOT, 163, 'E', ROOT, 164, 'L', ROOT, 160, 'L');
    }

    /** Without another label: in the root with parts, or without, or in a directory. */
    private static void labelsAlone() {
        Pair p = new Pair("labels alone", 400);
        p.format(2, 8, 2, 0);
        p.make("long name", false);
        p.make("S", false);
        p.make("D", true);
        p.enter(2);
        p.make("F", false);
        due(p, "4", ROOT, 32 + 11, 8);
        due(p, "0", ROOT, 64 + 11, 8);
        due(p, "4", ROOT, 96 + 11, 8);
        due(p, "4", cluster(3), 64 + 11, 8);
    }

    private static void day(Pair p, String fault, int at, int day) {
        due(p, fault, ROOT, 5 * 32 + at, day & 255, ROOT, 5 * 32 + at + 1, day >> 8);
    }

    private static void days() {
        Pair p = volume();
        int e = 5 * 32;
        day(p, "4", 24, 0);
        day(p, "0", 18, 0);
        day(p, "0", 16, 0);
        int[] right = {33, 32 + 31, 64 + 29, 96 + 31, 128 + 30, 160 + 31, 192 + 30, 224 + 31, 256 + 31, 288 + 30, 320 + 31, 352 + 30,
            384 + 31, 512 + 64 + 28, 20 * 512 + 64 + 29, 120 * 512 + 64 + 28, 124 * 512 + 64 + 29, 127 * 512 + 384 + 31};
        int[] wrong = {32, 1, 64, 64 + 30, 128 + 31, 192 + 31, 288 + 31, 352 + 31, 13 * 32 + 1, 15 * 32 + 1, 512 + 64 + 29,
            120 * 512 + 64 + 29, 127 * 512 + 13 * 32 + 1};
        for (int at : new int[] {16, 18, 24}) {
            for (int d : right) {
                day(p, "0", at, d);
            }
            for (int d : wrong) {
                day(p, "4", at, d);
            }
        }
        int[] rightTimes = {0, 29, 59 * 32 + 29, 23 * 2048 + 59 * 32 + 29, 23 * 2048};
        int[] wrongTimes = {30, 31, 60 * 32, 63 * 32, 24 * 2048, 31 * 2048, 65535};
        for (int t : rightTimes) {
            day(p, "0", 22, t);
            due(p, "0", ROOT, e + 16, 33, ROOT, e + 14, t & 255, ROOT, e + 15, t >> 8);
        }
        for (int t : wrongTimes) {
            day(p, "4", 22, t);
            due(p, "4", ROOT, e + 16, 33, ROOT, e + 14, t & 255, ROOT, e + 15, t >> 8);
        }
        day(p, "4", 14, 1);
        due(p, "4", ROOT, e + 13, 1);
        due(p, "0", ROOT, e + 16, 33, ROOT, e + 13, 199);
        due(p, "4", ROOT, e + 16, 33, ROOT, e + 13, 200);
    }

    private static void shortNames() {
        Pair p = volume();
        int e = 5 * 32;
        for (int b = 0; b < 256; b++) {
            boolean fits = b == ' ' || Oracle.SHORT.indexOf(b) >= 0;
            due(p, fits ? "0" : "4", ROOT, e + 1, b);
            boolean fitsFirst = Oracle.SHORT.indexOf(b) >= 0 && b != 'D' || b == 229 || b == 0;
            due(p, b == 'D' ? "5" : fitsFirst ? "0" : "4", ROOT, e, b);
        }
        due(p, "4", ROOT, e + 2, 'X');
        due(p, "0", ROOT, e + 8, 'X');
        due(p, "4", ROOT, e + 9, 'X');
        due(p, "4", ROOT, e + 8, 'X', ROOT, e + 10, 'X');
        due(p, "0", ROOT, e + 8, 'X', ROOT, e + 9, 'X');
    }

    /** Parts stand in the slots 1 and 2 of the root: number 2 with six units, number 1 with 13. */
    private static void parts() {
        Pair p = volume();
        int second = 32;
        int first = 64;
        due(p, "4", ROOT, second, 2);
        due(p, "4", ROOT, second, 64 + 3);
        due(p, "4", ROOT, second, 64 + 1);
        due(p, "4", ROOT, second, 128 + 64 + 2);
        due(p, "4", ROOT, second, 64);
        due(p, "4", ROOT, second, 64 + 21);
        due(p, "4", ROOT, first, 64 + 1);
        due(p, "4", ROOT, first, 2);
        due(p, "4", ROOT, first, 229);
        due(p, "4", ROOT, first, 0);
        due(p, "4", ROOT, second, 229);
        due(p, "0", ROOT, second, 229, ROOT, first, 229);
        due(p, "4", ROOT, 3 * 32, 229);
        due(p, "4", ROOT, 3 * 32, 0);
        due(p, "4", ROOT, 3 * 32, 'T');
        due(p, "4", ROOT, second + 12, 1);
        due(p, "4", ROOT, first + 12, 1);
        due(p, "4", ROOT, second + 26, 1);
        due(p, "4", ROOT, first + 27, 1);
        due(p, "4", ROOT, second + 13, p.x.byteAt(ROOT, second + 13) ^ 1);
        due(p, "4", ROOT, first + 13, p.x.byteAt(ROOT, first + 13) ^ 1);
        due(p, "0", ROOT, first + 11, 15 | 128, ROOT, second + 11, 15 | 64);
        due(p, "4", ROOT, first + 11, 15 | 32);
        due(p, "4", ROOT, 3 * 32 + 11, 15);
        due(p, "4", ROOT, 3 * 32 + 11, 8);
        // Units: the sixth of part 2 is the last one, then 0, then 65535.
        due(p, "4", ROOT, second + 16, 'x', ROOT, second + 17, 0);
        due(p, "0", ROOT, second + 16, 'x', ROOT, second + 17, 0, ROOT, second + 18, 0, ROOT, second + 19, 0);
        due(p, "4", ROOT, second + 18, 0);
        due(p, "4", ROOT, second + 31, 0);
        due(p, "4", ROOT, second + 14, 32);
        due(p, "4", ROOT, second + 14, '.');
        due(p, "4", ROOT, second + 14, 0);
        due(p, "4", ROOT, first + 1, 31);
        due(p, "0", ROOT, first + 1, 32);
        due(p, "0", ROOT, first + 1, '.');
        for (char c : "\"*/:<>?\\|\u007f\ud800\udfff\ufffe\uffff".toCharArray()) {
            due(p, "4", ROOT, first + 1, c & 255, ROOT, first + 2, c >> 8);
        }
        for (char c : "!;=+[],~\u0080\u00ff\ud7ff\ue000\ufffd".toCharArray()) {
            due(p, "0", ROOT, first + 1, c & 255, ROOT, first + 2, c >> 8);
        }
        longestName();
    }

    /** 20 parts have room for 260 units, of which 255 may be used. */
    private static void longestName() {
        Pair p = new Pair("longest name", 300);
        p.format(4, 8, 1, 0);
        StringBuilder name = new StringBuilder();
        while (name.length() < 255) {
            name.append((char) ('a' + name.length() % 26));
        }
        p.make(name.toString(), false);
        Due.is("fault", p.fault(), "0");
        // Unit 255, the 0, is the ninth of the first slot, part 20.
        due(p, "4", 9, 20, 'x', 9, 21, 0, 9, 22, 0, 9, 23, 0);
        due(p, "4", 9, 20, 'x');
        Due.is("fault", p.fault(), "0");
    }

    private static void dots() {
        Pair p = volume();
        int d = cluster(5);
        int g = cluster(7);
        for (int s = 0; s < 2; s++) {
            int at = 32 * s;
            due(p, "4", d, at, 'A');
            due(p, "4", d, at, 0);
            due(p, "4", d, at, 229);
            due(p, "4", d, at + 1, s == 0 ? '.' : ' ');
            due(p, "4", d, at + 10, 'X');
            due(p, "4", d, at + 11, 32);
            due(p, "4", d, at + 11, 48);
            due(p, "4", d, at + 11, 15);
            due(p, "4", d, at + 26, s == 0 ? 0 : 5);
            due(p, "4", d, at + 20, 1);
            due(p, "4", g, at + 26, s == 0 ? 5 : 0);
            due(p, "4", g, at + 26, 2);
            due(p, "0", d, at + 12, 1, d, at + 13, 255, d, at + 14, 255, d, at + 16, 255, d, at + 24, 0, d, at + 28, 9);
        }
        due(p, "4", d, 32 + 26, 2);
        due(p, "4", ROOT, 5 * 32, '.');
    }

    private static void names() {
        Pair p = volume();
        due(p, "5", ROOT, 5 * 32, 'D');
        due(p, "0", cluster(5), 3 * 32, 'D');
        due(p, "5", cluster(5), 3 * 32, 'F');
        Pair q = new Pair("names", 300);
        q.format(2, 8, 1, 0);
        q.make("ABC", false);
        q.make("abd", false);
        // Slot 0 is ABC, slot 1 the part of abd, slot 2 ABD~1.
        Due.is("fault", q.fault(), "0");
        due(q, "5", 10, 32 + 5, 'c');
        due(q, "0", 10, 32 + 5, 'e');
        q.make("abe", false);
        Due.is("short name", Feed.textAt(q.x, 10, 4 * 32, 11), "ABE~1      ");
        int sum = q.x.byteAt(10, 32 + 13);
        due(q, "5", 10, 4 * 32 + 2, 'D', 10, 3 * 32 + 13, sum);
        due(q, "4", 10, 4 * 32 + 2, 'D');
        // A name may be what another one's short name shows: it is no name.
        due(q, "0", 10, 0, 'A', 10, 1, 'B', 10, 2, 'D', 10, 3, '~', 10, 4, '2');
        due(q, "5", 10, 0, 'A', 10, 1, 'B', 10, 2, 'D', 10, 3, '~', 10, 4, '1');
    }

    private static void strays() {
        Pair p = volume();
        due(p, "6", link(195, 268435455));
        due(p, "6", link(8, 9, TABLE, 36, 255, TABLE, 37, 255, TABLE, 38, 255, TABLE, 39, 15,
                TABLE + 2, 36, 255, TABLE + 2, 37, 255, TABLE + 2, 38, 255, TABLE + 2, 39, 15));
    }

    /** Which fault comes first. */
    private static void firstOfAll() {
        Pair p = volume();
        due(p, "1", link(9, 1, 0, 12, 0));
        due(p, "2", link(9, 1, ROOT, 5 * 32 + 11, 64));
        // The root's slots come before the directory D's chain, and that before its slots.
        due(p, "4", link(5, 5, ROOT, 5 * 32 + 11, 64));
        due(p, "3", link(5, 5, cluster(5), 0, 0));
        due(p, "4", ROOT, 5 * 32 + 11, 64, cluster(5), 2 * 32 + 11, 64);
        // By slots: the file's chain (slot 3) before a wrong slot 4, a wrong slot 2 before it.
        due(p, "3", ROOT, 3 * 32 + 26, 0, ROOT, 4 * 32 + 11, 64);
        due(p, "4", ROOT, 3 * 32 + 26, 0, ROOT, 2 * 32 + 12, 1);
        // Of one entry: 4, then 5, then 3.
        due(p, "4", ROOT, 5 * 32, 'D', ROOT, 5 * 32 + 28, 1, ROOT, 5 * 32 + 11, 64);
        due(p, "5", ROOT, 5 * 32, 'D', ROOT, 5 * 32 + 28, 1);
        due(p, "3", ROOT, 5 * 32 + 28, 1);
        due(p, "3", link(195, 268435455, ROOT, 5 * 32 + 28, 1));
        // D begins with the cluster of G, whose "." and ".." are not those of D.
        due(p, "4", ROOT, 4 * 32 + 26, 7);
    }

    /** Every byte of the directories, and of the tables' first entries, with some values. */
    private static void everyByte() {
        Pair p = volume();
        List<Integer> sectors = List.of(TABLE, ROOT, cluster(5), cluster(7));
        for (int sector : sectors) {
            for (int at = 0; at < 7 * 32; at++) {
                int was = p.x.byteAt(sector, at);
                for (int value : new int[] {0, 1, 32, 46, 64, 229, 255, was ^ 1, was ^ 2, was ^ 16, was ^ 128}) {
                    p.poke(sector, at, value);
                    p.fault();
                    if (sector == TABLE) {
                        p.poke(sector + 2, at, value);
                        p.fault();
                        p.poke(sector + 2, at, was);
                    }
                }
                p.poke(sector, at, was);
                p.log.clear();
            }
        }
    }
}
