import java.util.Random;

/** Promises 24 and 25: fail, run: what a run leaves, however often the power failed before. */
public final class TurnTest {
    public static void main(String[] args) {
        fails();
        exceptions();
        stays();
        ownSize();
        keptSectors();
        everyCut();
        cutOfCuts();
        manyCuts();
        changedAfterwards();
        Due.finish();
    }

    private static void fails() {
        VolumeTurner x = new VolumeTurner(300);
        Due.is("fail(2, 0)", x.fail(2, 0), false);
        Due.is("fail(-1, 0)", x.fail(-1, 0), false);
        Due.is("fail(0, -1)", x.fail(0, -1), false);
        Due.is("fail(1, min)", x.fail(1, Integer.MIN_VALUE), false);
        for (int i = 0; i < 16; i++) {
            Due.is("fail " + i, x.fail(i % 2, i == 3 ? Integer.MAX_VALUE : i), true);
        }
        Due.is("one too many", x.fail(0, 0), false);
        Due.throwsState("run", () -> x.run(9, 64));
        for (int i = 0; i < 16; i++) {
            Due.is("the runs are gone: fail " + i, x.fail(0, 0), true);
        }
        x.format(8, 9, 1, 0);
        Due.is("they stay behind format", x.fail(0, 0), false);
        Due.throwsArgument("run", () -> x.run(9, 64));
        Due.is("they are gone", x.fail(0, 0), true);
        Due.is("run", x.run(0, 64), 0);
        for (int i = 0; i < 16; i++) {
            Due.is("they are gone: fail " + i, x.fail(0, 0), true);
        }
    }

    private static void exceptions() {
        VolumeTurner x = new VolumeTurner(300);
        Due.throwsState("no volume", () -> x.run(0, 64));
        Due.throwsState("no volume", () -> x.run(1, 64));
        Due.throwsState("no volume, no ask", () -> x.run(2, 64));
        x.format(8, 9, 1, 0);
        for (int ask : new int[] {-1, 2, Integer.MIN_VALUE, Integer.MAX_VALUE}) {
            Due.throwsArgument("run(" + ask + ")", () -> x.run(ask, 64));
        }
        x.poke(9, 0, 0);
        Due.is("not sound", x.run(0, 64), 2);
        Due.is("not sound, back", x.run(1, 64), 0);
        Due.is("kind", x.kind(), 1);
        Due.is("fault", x.fault(), 2);
    }

    private static void stays() {
        Pair p = new Pair("stays", 300);
        p.format(8, 9, 1, 0);
        Due.is("back", p.run(1, 0), "0");
        p.wholeDisk();
        Due.is("refused", p.run(0, 0), "12");
        p.fail(0, 1000);
        p.fail(1, 0);
        Due.is("refused", p.run(0, 0), "12");
        p.wholeDisk();
        p.fail(0, 1000);
        Due.is("back", p.run(1, 99), "0");
        p.wholeDisk();
        Due.is("finish", p.run(0, 64), "0");
        p.wholeDisk();
        Due.is("kind", p.kind() + p.fault(), "20");
        Due.is("finish again", p.run(0, 128), "0");
        p.wholeDisk();
        Due.is("groups of 64", Feed.number(p.x, 2, 32, 4), 64);
        Due.is("back", p.run(1, 0), "0");
        Due.is("kind", p.kind() + p.fault(), "10");
        p.wholeDisk();
    }

    /** If there is an inode volume, all runs use its own P. */
    private static void ownSize() {
        for (int size : new int[] {64, 128, 256, 0}) {
            VolumeTurner x = new VolumeTurner(1024);
            x.format(4, 32, 2, 0);
            Due.is("run", x.run(0, 128), 0);
            x.fail(1, 100000);
            Due.is("back and forth", x.run(0, size), 0);
            Due.is("kind", x.kind(), 2);
            Due.is("groups of 128", Feed.number(x, 2, 32, 4), 128);
            Due.is("the mark", Feed.number(x, 7, 4, 4), 128);
            x.fail(1, 100000);
            x.fail(0, 100000);
            Due.is("back", x.run(1, size), 0);
            Due.is("run", x.run(0, 256), 0);
            Due.is("groups of 256", Feed.number(x, 2, 32, 4), 256);
        }
    }

    /** The sectors before the tables come back as they were. */
    private static void keptSectors() {
        Pair p = new Pair("kept sectors", 500);
        p.format(4, 20, 2, 77);
        for (int sector : new int[] {1, 3, 4, 5, 6, 8, 19}) {
            for (int at = 0; at < 512; at += 73) {
                p.poke(sector, at, sector + at);
            }
        }
        p.make("F", false);
        p.grow(0, 5000, 1);
        for (int w = 0; w < 120; w += 3) {
            p.run(0, 64);
            p.wholeDisk();
            Due.is("kept in the record", p.content(1, 512), String.valueOf(3));
            p.fail(1, w);
            p.run(1, 64);
            p.wholeDisk();
            p.fail(0, w);
            p.run(1, 64);
            p.wholeDisk();
            p.log.clear();
        }
    }

    /** A volume in which clusters of a directory, of a file and of the root must move. */
    private static Pair busy(int sectors, int cluster) {
        Pair p = new Pair("busy " + sectors + " " + cluster, sectors);
        p.tape("BUSY ONE".getBytes(java.nio.charset.StandardCharsets.US_ASCII));
        p.format(cluster, 8, 2, 0x1234);
        p.make("first file of this volume", false);
        p.grow(0, sectors * 60, 1);
        p.make("some directory", true);
        p.make("G", false);
        p.enter(1);
        for (int i = 0; i < 9; i++) {
            p.make("item number " + i + ".of it", i % 3 == 1);
            if (i % 3 != 1) {
                p.grow(i, 1500 * i, i);
            }
        }
        p.stamp(2, 4, 0, 1);
        p.stamp(2, 1, 20 * 512 + 64 + 29, 0);
        p.stamp(3, 0, 20 * 512 + 64 + 29, 7777);
        p.stamp(3, 3, 0, 123);
        p.up();
        p.grow(2, sectors * 20, 9);
        p.cut(0, sectors * 30);
        return p;
    }

    /** The power fails once, behind each number of writes, on each way to each end. */
    private static void everyCut() {
        Pair p = busy(400, 4);
        Due.is("plan", p.plan(128, 0), "0");
        int writes = writesOf(p);
        for (int w = 0; w <= writes; w++) {
            p.fail(0, w);
            turn(p, 1, 128);
            p.fail(0, w);
            turn(p, 0, 128);
            p.fail(1, w);
            turn(p, 0, 128);
            p.fail(1, w);
            turn(p, 1, 128);
            p.log.clear();
        }
    }

    /** More writes than a run has: twice the sectors. */
    private static int writesOf(Pair p) {
        return p.o.n / 2;
    }

    private static void turn(Pair p, int ask, int size) {
        Due.is("run", p.run(ask, size), "0");
        p.kind();
        p.wholeDisk();
    }

    /** The power fails twice, the second time in what goes on from the first one. */
    private static void cutOfCuts() {
        Pair p = busy(300, 2);
        for (int first = 0; first < 110; first += 4) {
            for (int second = 0; second < 110; second += 7) {
                for (int asks = 0; asks < 8; asks++) {
                    p.fail(asks & 1, first);
                    p.fail(asks >> 1 & 1, second);
                    p.run(asks >> 2, 128);
                }
                p.wholeDisk();
                p.fail(1, first);
                p.fail(0, second);
                p.run(1, 128);
                p.wholeDisk();
                p.log.clear();
            }
        }
    }

    private static void manyCuts() {
        Random random = new Random(25);
        int[][] volumes = {{1024, 2, 256}, {1024, 8, 128}, {770, 2, 64}, {512, 4, 64}, {1000, 4, 256}, {300, 2, 128}};
        for (int[] v : volumes) {
            Pair p = busy(v[0], v[1]);
            Due.is("plan", p.plan(v[2], 0), "0");
            for (int i = 0; i < 40; i++) {
                int n = random.nextInt(17);
                for (int j = 0; j < n; j++) {
                    p.fail(random.nextInt(2), random.nextInt(random.nextInt(3) == 0 ? 1000 : 150));
                }
                p.run(random.nextInt(2), v[2]);
                p.kind();
                p.wholeDisk();
                p.log.clear();
            }
            p.allHere();
        }
    }

    /** What came back can be changed and turned again. */
    private static void changedAfterwards() {
        Pair p = busy(770, 4);
        for (int i = 0; i < 12; i++) {
            p.fail(0, 10 * i);
            p.run(0, 64 << i % 3);
            p.allHere();
            p.fail(1, 10 * i);
            p.run(1, 64);
            p.make("new one " + i, i % 2 == 0);
            p.grow(2, 777, i);
            p.remove(3);
            p.wholeDisk();
            p.fault();
            p.log.clear();
        }
    }
}
