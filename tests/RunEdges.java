/** The edges that the document names for runs and for the power that fails: the promises 24 and 25. */
final class RunEdges {
    private static final int MIN = Integer.MIN_VALUE;
    private static final int MAX = Integer.MAX_VALUE;
    private static final int FINISH = 0;
    private static final int BACK = 1;
    /** More writes than a run of the volume below has: 16 for what moves, 14 for what is built, the mark, 20 for what is fixed. */
    private static final int ENOUGH = 60;

    private RunEdges() {
    }

    static void all() {
        fail();
        refused();
        stays();
        sizes();
        gone();
        finish();
        back();
        cut();
        cutTwice();
        change();
    }

    /**
     * 256 sectors, C = 2, V = 8, two tables of one sector, A = 10, with a label, files and directories.
     * In groups of 64 (Q = 2) the root, "some file" and D have clusters that must move.
     */
    private static Counted volume() {
        Counted v = new Counted(256);
        v.text("EDGES");
        v.format(2, 8, 2, 0x0a0b0c0d);
        v.poke(1, 300, 11);
        v.poke(3, 7, 12);
        v.poke(4, 8, 13);
        v.poke(5, 511, 14);
        v.file("some file");
        v.grow(0, 3000, 1);
        v.directory("D");
        v.enter(1);
        v.file("IN");
        v.grow(0, 60000, 2);
        v.directory("E");
        v.up();
        return v;
    }

    /** One byte of each sector, another one for each salt; NONE where no byte is shown. */
    private static String print(Counted v, int salt) {
        StringBuilder b = new StringBuilder();
        for (int sector = 0; sector < 256; sector++) {
            b.append(v.byteAt(sector, (sector * 31 + salt * 67) % 512)).append(' ');
        }
        return b.toString();
    }

    /** What stands in the sectors that the record keeps, and in sector 1. */
    private static String kept(Counted v) {
        return v.byteAt(1, 300) + " " + v.byteAt(3, 7) + " " + v.byteAt(4, 8) + " " + v.byteAt(5, 511);
    }

    private static void fail() {
        Sentence.holds(24, "asked for ask, and cut behind writes writes (if it has so many): true", () -> {
            Counted v = new Counted(256);
            for (int writes : new int[] {0, 1, 2, 1000, MAX}) {
                Due.is("finish, " + writes, v.fail(FINISH, writes), true);
                Due.is("back, " + writes, v.fail(BACK, writes), true);
            }
            Counted w = volume();
            Counted u = volume();
            w.fail(FINISH, MAX);
            w.fail(BACK, MAX);
            Due.is("run", w.run(FINISH, 64), 0);
            Due.is("run", u.run(FINISH, 64), 0);
            Due.is("both ways to their ends, and once more", print(w, 1), print(u, 1));
        });
        Sentence.holds(24, "false if ask is not 0 or 1", () -> {
            Counted v = new Counted(256);
            for (int ask : new int[] {-1, 2, 3, 256, 257, MIN, MAX}) {
                Due.is("ask " + ask, v.fail(ask, 0), false);
            }
            sixteenMore(v, "none of them was told");
        });
        Sentence.holds(24, "writes is below 0", () -> {
            Counted v = new Counted(256);
            for (int writes : new int[] {-1, -2, MIN}) {
                Due.is("writes " + writes, v.fail(0, writes), false);
                Due.is("writes " + writes, v.fail(1, writes), false);
            }
            sixteenMore(v, "none of them was told");
        });
        Sentence.holds(24, "or there are 16 already.", () -> {
            Counted v = volume();
            sixteenMore(v, "at first");
            Due.throwsArgument("a run that throws", () -> v.run(2, 64));
            sixteenMore(v, "behind a run that throws");
            Due.is("run", v.run(FINISH, 64), 0);
            sixteenMore(v, "behind a run");
            Due.is("run", v.run(BACK, 64), 0);
            Due.is("kind", v.kind(), 1);
        });
        Sentence.holds(24, "One more run comes ahead of the next run()", () -> {
            // The power fails sixteen times, then the run comes to its end all the same.
            Counted v = volume();
            Counted w = volume();
            for (int i = 0; i < 16; i++) {
                v.fail(i % 3 == 1 ? BACK : FINISH, 5 * i);
            }
            Due.is("run", v.run(FINISH, 64), 0);
            Due.is("run", w.run(FINISH, 64), 0);
            Due.is("the volume", print(v, 2), print(w, 2));
        });
    }

    private static void sixteenMore(Counted v, String when) {
        for (int i = 0; i < 16; i++) {
            Due.is("number " + i + " " + when, v.fail(i % 2, i), true);
        }
        Due.is("number 16 " + when, v.fail(0, 0), false);
        Due.is("number 16 " + when, v.fail(1, MAX), false);
    }

    private static void refused() {
        Sentence.holds(25, "0, or what the last one refused (BACK refuses nothing; one that is refused, or cut behind 0 writes, does nothing).", () -> {
            Counted v = volume();
            String before = print(v, 3);
            Due.is("refused", v.run(FINISH, 63), 12);
            Due.is("back with a wrong size", v.run(BACK, 63), 0);
            v.fail(FINISH, MAX);
            v.fail(BACK, MAX);
            Due.is("one that is refused, then back", v.run(BACK, 63), 0);
            v.fail(BACK, MAX);
            Due.is("back, then one that is refused", v.run(FINISH, 63), 12);
            Due.is("kind", v.kind(), 1);
            Counted w = volume();
            Due.is("nothing is changed", print(w, 3), before);
            w.fail(FINISH, 0);
            Due.is("cut behind 0 writes", w.run(BACK, 64), 0);
            Due.is("kind", w.kind(), 1);
            Due.is("fault", w.fault(), 0);
            w.run(FINISH, 64);
            w.fail(BACK, 0);
            Due.is("cut behind 0 writes", w.run(FINISH, 64), 0);
            Due.is("kind", w.kind(), 2);
        });
        Sentence.holds(25, "To finish: a table volume becomes the inode volume told here, or is refused and nothing is changed", () -> {
            Counted v = volume();
            v.file(".turned");
            String before = print(v, 4);
            v.fail(FINISH, 10);
            Due.is("refused", v.run(FINISH, 64), 13);
            Counted w = volume();
            w.file(".turned");
            Due.is("the disk of its twin", print(w, 4), before);
            w.run(FINISH, 64);
            Due.is("kind", w.kind() + 10 * w.fault() + 100 * w.items(), 301);
        });
    }

    private static void stays() {
        Sentence.holds(25, "an inode volume stays.", () -> {
            Counted v = volume();
            Counted w = volume();
            v.run(FINISH, 64);
            for (int p : new int[] {64, 128, 256, 0, -1, MAX}) {
                Due.is("finish again with " + p, v.run(FINISH, p), 0);
                Due.is("kind", v.kind(), 2);
            }
            w.run(FINISH, 64);
            Due.is("the volume", print(v, 5), print(w, 5));
        });
        Sentence.holds(25, "a table volume stays.", () -> {
            Counted v = volume();
            Counted w = volume();
            for (int p : new int[] {64, 128, 256, 0, -1, MAX}) {
                Due.is("back with " + p, v.run(BACK, p), 0);
                Due.is("kind", v.kind(), 1);
            }
            Due.is("the volume", print(v, 6), print(w, 6));
            Due.is("sectors 1, 3, 4, 5", kept(v), "11 12 13 14");
            Counted u = new Counted(256);
            u.format(2, 8, 2, 0);
            u.poke(8, 0, 0);
            Due.is("one that is not sound", u.run(BACK, 64), 0);
            Due.is("fault", u.fault(), 2);
            Due.is("one that is not sound cannot finish", u.run(FINISH, 64), 2);
        });
    }

    private static void sizes() {
        Sentence.holds(25, "groups of P blocks, if there is a table volume now", () -> {
            for (int p : new int[] {64, 128, 256}) {
                Counted v = new Counted(1024);
                v.format(2, 8, 2, 0);
                v.fail(FINISH, 30);
                v.fail(BACK, MAX);
                Due.is("run", v.run(FINISH, p), 0);
                Due.is("P in the superblock", v.number(2, 32, 4), p);
                Due.is("P in the mark", v.number(7, 4, 4), p);
            }
        });
        Sentence.holds(25, "(if there is an inode volume, all these runs use its own P)", () -> {
            for (int p : new int[] {64, 128, 256, 0, 63, MIN}) {
                Counted v = new Counted(1024);
                v.format(2, 8, 2, 0);
                v.run(FINISH, 128);
                v.fail(BACK, MAX);
                Due.is("back, then finish with " + p, v.run(FINISH, p), 0);
                Due.is("kind", v.kind(), 2);
                Due.is("P in the superblock", v.number(2, 32, 4), 128);
                v.fail(BACK, MAX);
                v.fail(FINISH, 40);
                v.fail(BACK, 7);
                Due.is("to and fro with " + p, v.run(FINISH, p), 0);
                Due.is("P in the superblock", v.number(2, 32, 4), 128);
                Due.is("back with " + p, v.run(BACK, p), 0);
                Due.is("a table volume takes another", v.run(FINISH, 256), 0);
                Due.is("P in the superblock", v.number(2, 32, 4), 256);
            }
        });
    }

    private static void gone() {
        Sentence.holds(25, "IllegalStateException: there is no volume; IllegalArgumentException: ask is not 0 or 1.", () -> {
            Counted v = new Counted(256);
            for (int ask : new int[] {0, 1, 2, -1}) {
                Due.throwsState("without a volume, ask " + ask, () -> v.run(ask, 64));
            }
            v.format(2, 8, 2, 0);
            for (int ask : new int[] {-1, 2, 3, 256, MIN, MAX}) {
                Due.throwsArgument("a table volume, ask " + ask, () -> v.run(ask, 64));
                Due.throwsArgument("with a wrong size, ask " + ask, () -> v.run(ask, 0));
            }
            v.run(FINISH, 64);
            for (int ask : new int[] {-1, 2, MIN, MAX}) {
                Due.throwsArgument("an inode volume, ask " + ask, () -> v.run(ask, 64));
            }
            Due.is("it stays", v.kind(), 2);
        });
        Sentence.holds(25, "(The runs told by fail are gone in any case.)", () -> {
            Counted v = new Counted(256);
            sixteenMore(v, "before a run without a volume");
            Due.throwsState("run", () -> v.run(0, 64));
            v.format(2, 8, 2, 0);
            sixteenMore(v, "before a run for nothing");
            Due.throwsArgument("run", () -> v.run(2, 64));
            sixteenMore(v, "before a run that is refused");
            Due.is("run", v.run(0, 1), 12);
            sixteenMore(v, "before a run that does nothing");
            Due.is("run", v.run(1, 64), 0);
            sixteenMore(v, "behind all of them");
        });
    }

    private static void finish() {
        Sentence.holds(25, "To finish: a table volume becomes the inode volume told here", () -> {
            Counted v = new Counted(256);
            v.format(2, 8, 2, 0);
            Due.is("nothing in it", v.run(FINISH, 128), 0);
            Due.is("kind", v.kind(), 2);
            Due.is("the record alone", v.items(), 1);
            Due.is("its name", v.nameOf(0), ".turned");
            Counted w = volume();
            Due.is("clusters that move", w.plan(64, 4) > 3, true);
            Due.is("run", w.run(FINISH, 64), 0);
            Due.is("items", w.items(), 3);
            Due.is("names", w.nameOf(0) + " " + w.nameOf(1) + " " + w.nameOf(2), "some file D .turned");
            Due.is("the last byte of a file that moved", w.content(0, 2999), 1 + 2999 * 2999 + 11 & 255);
            Due.is("enter", w.enter(1), 2);
            Due.is("the last byte of another", w.content(0, 59999), (int) ((2 + 59999L * 59999 + 234) % 256));
        });
    }

    private static void back() {
        Sentence.holds(25, "Back: an inode volume becomes the table volume from which it came, sector for sector but for those of free clusters", () -> {
            for (int salt = 0; salt < 40; salt++) {
                Counted v = volume();
                Counted w = volume();
                Due.is("run", v.run(FINISH, 64), 0);
                Due.is("back", v.run(BACK, 64), 0);
                Due.is("every sector", print(v, salt), print(w, salt));
                Due.is("fault", v.fault(), 0);
            }
            Counted u = volume();
            u.run(FINISH, 64);
            u.run(BACK, 64);
            Due.is("sectors 1, 3, 4, 5", kept(u), "11 12 13 14");
            Due.is("sectors 2 and 7 are 0 again", u.number(2, 56, 2) + u.number(7, 0, 4), 0);
        });
        Sentence.holds(25, "Back: an inode volume becomes the table volume from which it came", () -> {
            // It can be changed as before: the root and D have moved, and are where they were.
            Counted v = volume();
            v.run(FINISH, 64);
            v.run(BACK, 64);
            v.stamp(0, 4, 0, 1);
            Due.is("read only", v.about(0, 1), 1);
            Due.is("in the root's slot 2", v.byteAt(10, 64 + 11), 33);
            Due.is("a new file", v.file("NEW"), 2);
            Due.is("in the root's slot 4", v.textAt(10, 128, 3), "NEW");
            Due.is("items", v.items(), 3);
            v.enter(1);
            v.remove(1);
            Due.is("items of D", v.items(), 1);
            Due.is("fault", v.fault(), 0);
        });
        Sentence.holds(25, "FIXED blocks are those of all superblocks, descriptors, maps, inodes.", () -> {
            // C = 8, A = 10, three groups, of which the last one has 13 blocks: the clusters 33 and 34 of 2 .. 35 move.
            Counted v = new Counted(284);
            Due.is("clusters", v.format(8, 9, 1, 0), 34);
            v.file("A");
            v.grow(0, 14 * 4096, 0);
            v.file("B");
            v.grow(1, 19 * 4096, 3);
            v.cut(0, 1);
            Due.is("33 moves", v.target(64, 33) > 0, true);
            Due.is("34 moves", v.target(64, 34) > 0, true);
            Due.is("35 does not", v.target(64, 35), 0);
            for (int way = 0; way < 3; way++) {
                for (int at = 0; at < 19 * 4096; at += 1021) {
                    Due.is("byte " + at, v.content(1, at), (int) ((3 + (long) at * at + (at >> 8)) % 256));
                }
                Due.is("run", v.run(way % 2, 64), 0);
            }
        });
    }

    private static void cut() {
        Sentence.holds(25, "A run may be cut: the power fails behind some number of writes of a sector; another run goes on then from what stands on"
                + " the disk", () -> {
            for (int writes = 0; writes <= ENOUGH; writes++) {
                Counted table = volume();
                Counted inode = volume();
                inode.run(FINISH, 64);
                String tableDue = print(table, writes);
                String inodeDue = print(inode, writes);
                Counted v = volume();
                v.fail(FINISH, writes);
                Due.is("finish", v.run(FINISH, 64), 0);
                Due.is("cut behind " + writes + ", then finish", print(v, writes), inodeDue);
                Counted w = volume();
                w.run(FINISH, 64);
                w.fail(BACK, writes);
                Due.is("back", w.run(BACK, 64), 0);
                Due.is("back, cut behind " + writes + ", then back", print(w, writes), tableDue);
            }
        });
        Sentence.holds(25, "asked for the one or the other, whatever the runs before were asked for.", () -> {
            for (int writes = 0; writes <= ENOUGH; writes++) {
                Counted table = volume();
                Counted inode = volume();
                inode.run(FINISH, 64);
                String tableDue = print(table, writes);
                String inodeDue = print(inode, writes);
                Counted v = volume();
                v.fail(FINISH, writes);
                Due.is("back", v.run(BACK, 64), 0);
                Due.is("cut behind " + writes + ", then back", print(v, writes), tableDue);
                Due.is("fault", v.fault(), 0);
                Counted w = volume();
                w.run(FINISH, 64);
                w.fail(BACK, writes);
                Due.is("finish", w.run(FINISH, 64), 0);
                Due.is("back, cut behind " + writes + ", then finish", print(w, writes), inodeDue);
            }
        });
    }

    private static void cutTwice() {
        Sentence.holds(25, "The runs that were told by fail(), in their order, and then one that is not cut", () -> {
            Counted table = volume();
            Counted inode = volume();
            inode.run(FINISH, 64);
            String tableDue = print(table, 9);
            String inodeDue = print(inode, 9);
            for (int first = 1; first <= ENOUGH; first += 9) {
                for (int second = 1; second <= ENOUGH; second += 13) {
                    for (int asks = 0; asks < 8; asks++) {
                        Counted v = volume();
                        v.fail(asks & 1, first);
                        v.fail(asks >> 1 & 1, second);
                        v.fail(1 - (asks & 1), second / 2);
                        int last = asks >> 2;
                        Due.is("run", v.run(last, 64), 0);
                        Due.is("asks " + asks + ", cut behind " + first + " and " + second, print(v, 9), last == 0 ? inodeDue : tableDue);
                    }
                }
            }
        });
    }

    private static void change() {
        Sentence.holds(25, "nothing but a run and format changes it.)", () -> {
            Counted v = volume();
            Counted w = volume();
            v.run(FINISH, 64);
            w.run(FINISH, 64);
            v.name("X");
            Due.throwsState("make", () -> v.make(true));
            v.text("X");
            Due.throwsState("write", () -> v.write(0));
            Due.throwsState("grow", () -> v.grow(0, 1, 1));
            Due.throwsState("cut", () -> v.cut(0, 0));
            Due.throwsState("remove", () -> v.remove(0));
            Due.throwsState("stamp", () -> v.stamp(0, 4, 0, 1));
            Due.is("poke", v.poke(100, 0, 1), false);
            Due.throwsArgument("a format that throws", () -> v.format(2, 7, 2, 0));
            Due.throwsArgument("a run that throws", () -> v.run(2, 64));
            Due.is("the volume", print(v, 10), print(w, 10));
            Due.is("kind", v.kind(), 2);
            v.format(2, 8, 2, 0);
            Due.is("format changes it", v.kind(), 1);
        });
    }
}
