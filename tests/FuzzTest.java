import java.util.ArrayList;
import java.util.List;
import java.util.Random;

/** Long runs of calls drawn by fixed seeds, on a VolumeTurner and an Oracle at once. */
public final class FuzzTest {
    private static final String[] STEMS = {"a", "B", "read me.txt", "READ.ME", "long name with many letters in it.text",
        "\u00e9t\u00e9", "\u4e2d\u6587", "x.y.z", ".hidden", "..b", "TURNED~1", ".turned", "UPPER", "upper", "+[];=,",
        "A~1", "thirteen unit", "twenty-six units in a name", "LONGN~1.TEX", "name", "a b c", "~", "$%'-_@~`.!(}", "ABCDEFGHI"};
    private static final int[] SECTORS = {256, 257, 300, 400, 500, 512, 640, 770, 900, 1000, 1023, 1024, 1025, 0};
    private static final int[] SIZES = {64, 128, 256};

    private final Random random;
    private final Pair p;
    /** Whether the volume shall be one that can be turned. */
    private final boolean turnable;

    private FuzzTest(long seed) {
        random = new Random(seed);
        p = new Pair("seed " + seed, SECTORS[random.nextInt(SECTORS.length)]);
        turnable = random.nextInt(2) == 0;
    }

    public static void main(String[] args) {
        long from = args.length > 0 ? Long.parseLong(args[0]) : 1;
        long to = args.length > 1 ? Long.parseLong(args[1]) : 120;
        for (long seed = from; seed <= to && Pair.wrong == 0; seed++) {
            new FuzzTest(seed).play();
        }
        Pair.finish((int) (to - from + 1));
    }

    private int below(int n) {
        return random.nextInt(n);
    }

    private void play() {
        int style = below(4);
        int most = 60 + below(300);
        format();
        for (int calls = 0; calls < most && Pair.wrong == 0; calls++) {
            step(style);
            if (below(12) == 0) {
                p.wholeDisk();
            }
        }
        p.wholeDisk();
        p.allHere();
    }

    private void format() {
        if (below(2) == 0) {
            String[] labels = {"DISK", "MY DISK", "A  B  C", "ELEVEN BYTE", "TWELVE BYTES", " X", "low", "~", "A "};
            p.tape(labels[below(labels.length)].getBytes(java.nio.charset.StandardCharsets.US_ASCII));
        }
        int c = below(20) == 0 ? below(10) : 2 << below(3);
        int v = below(20) == 0 ? below(80) : below(3) == 0 ? 8 + below(57) : 8 + below(20);
        int y = below(20) == 0 ? below(4) : 1 + below(2);
        p.format(c, v, y, random.nextInt());
        if (turnable && p.o.kind() == 1 && new Oracle.Volume(p.o.disk, p.o.n).a % 2 != 0) {
            p.format(c, v == 64 ? 63 : v + 1, y, random.nextInt());
        }
    }

    private int anItem() {
        int count = 3;
        try {
            count = p.o.items();
        } catch (IllegalStateException e) {
            count = 3;
        }
        return below(15) == 0 ? below(count + 4) - 2 : count == 0 ? 0 : below(count);
    }

    private String aName() {
        String stem = STEMS[below(STEMS.length)];
        if (below(3) == 0) {
            stem = stem + below(30);
        }
        if (below(15) == 0) {
            StringBuilder b = new StringBuilder();
            int n = 1 + below(260);
            for (int i = 0; i < n; i++) {
                b.append(below(8) == 0 ? (char) random.nextInt(65536) : below(2) == 0 ? (char) (32 + below(96)) : 'q');
            }
            stem = b.toString();
        }
        if (below(10) == 0) {
            StringBuilder b = new StringBuilder();
            int n = 60 + below(196);
            for (int i = 0; i < n; i++) {
                b.append(below(20) == 0 ? '\u0416' : (char) ('a' + below(26)));
            }
            stem = b.toString();
        }
        return turnable && Oracle.upper(stem).equals(".TURNED") ? "turned" : stem;
    }

    private int aDay() {
        switch (turnable ? 3 : below(6)) {
            case 0:
                return 0;
            case 1:
                return random.nextInt(70000) - 1000;
            case 2:
                return (126 + below(2)) * 512 + (1 + below(3)) * 32 + 1 + below(28);
            default:
                return below(128) * 512 + (1 + below(12)) * 32 + 1 + below(31);
        }
    }

    private int aTime() {
        return below(3) == 0 ? 0 : below(5) == 0 ? below(70000) - 1000 : below(24) * 2048 + below(60) * 32 + below(30);
    }

    private void step(int style) {
        int what = below(100);
        if (what < 24) {
            p.make(aName(), below(3) == 0);
        } else if (what < 36) {
            p.grow(anItem(), style == 1 ? below(120000) : below(3) == 0 ? below(20000) : below(3000), random.nextInt());
        } else if (what < 42) {
            byte[] bytes = new byte[below(100)];
            random.nextBytes(bytes);
            p.tape(bytes);
            p.write(anItem());
        } else if (what < 47) {
            p.cut(anItem(), below(4) == 0 ? 0 : below(9000));
        } else if (what < 52) {
            p.remove(anItem());
        } else if (what < 60) {
            p.stamp(anItem(), below(20) == 0 ? below(9) - 2 : below(5), aDay(), below(5) == 0 ? below(256) : aTime());
        } else if (what < 68) {
            p.enter(anItem());
        } else if (what < 72) {
            p.up();
        } else if (what < 82) {
            read();
        } else if (what < 90) {
            poke(style);
        } else if (what < 94) {
            plan();
        } else if (what < 97 && style != 2) {
            turn();
        } else if (below(6) == 0) {
            format();
        }
    }

    private void read() {
        p.kind();
        p.fault();
        p.items();
        int k = anItem();
        p.letter(k, below(20));
        p.about(k, below(6));
        p.content(k, below(4) == 0 ? below(300000) : below(3000));
        p.byteAt(below(1030) - 3, below(514) - 1);
    }

    private void plan() {
        int size = below(10) == 0 ? below(300) - 20 : SIZES[below(3)];
        for (int what = 0; what <= 6; what++) {
            p.plan(size, what);
        }
        p.plan(size, below(2) == 0 ? -1 : 7);
        for (int i = 0; i < 6; i++) {
            p.target(size, i == 0 ? below(520) : i + below(60));
        }
    }

    private void turn() {
        int fails = below(3) == 0 ? 0 : below(18);
        for (int i = 0; i < fails; i++) {
            p.fail(below(30) == 0 ? 2 : below(2), below(30) == 0 ? -1 : below(below(2) == 0 ? 400 : 40));
        }
        p.run(below(30) == 0 ? 2 : below(3) == 0 ? 1 : 0, below(12) == 0 ? below(100) : SIZES[below(3)]);
        p.kind();
        p.fault();
        p.wholeDisk();
        p.allHere();
        if (below(3) == 0) {
            p.run(1, 0);
            p.wholeDisk();
        }
    }

    /** A change of one byte that counts for something; it is often taken back. */
    private void poke(int style) {
        if (style == 3 || p.o.kind() != 1) {
            p.poke(below(1030) - 3, below(514) - 1, random.nextInt());
            return;
        }
        Oracle.Volume t = new Oracle.Volume(p.o.disk, p.o.n);
        int at = aPlace(t);
        int was = p.o.disk[at] & 255;
        int[] values = {was ^ 1 << below(8), below(256), 0, 229, was + 1, was - 1, 32, 15, 255};
        p.poke(at / 512, at % 512, values[below(values.length)]);
        String fault = p.fault();
        p.plan(64, 0);
        p.items();
        if (!fault.equals("0") && below(8) != 0) {
            p.poke(at / 512, at % 512, was);
            p.fault();
        }
    }

    private int aPlace(Oracle.Volume t) {
        int what = below(10);
        if (what == 0) {
            int[] fields = {11, 12, 13, 14, 15, 16, 17, 18, 19, 20, 21, 22, 23, 32, 33, 36, 37, 44, 45, 47, 48, 49, 50, 51,
                67, 510, 511};
            return fields[below(fields.length)];
        }
        if (what < 4) {
            return (t.v + t.z * below(t.y)) * 512 + below(4 * (below(2) == 0 ? 12 : t.k + 3));
        }
        if (what == 4) {
            return below(p.o.n * 512);
        }
        List<Integer> clusters = new ArrayList<>();
        try {
            for (Oracle.Node i : t.readTree().items) {
                if (i.directory) {
                    clusters.addAll(i.chain);
                }
            }
        } catch (Oracle.Bad e) {
            clusters.add(2);
        }
        int c = clusters.get(below(clusters.size()));
        return t.place(c) + 32 * below(below(2) == 0 ? 6 : 16 * t.c) + below(32);
    }
}
