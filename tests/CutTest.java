import java.lang.reflect.Field;
import java.lang.reflect.Method;
import java.util.Arrays;

/**
 * Promises 24 and 25 from within: no call shows what a cut run leaves, so this test looks at the disk
 * itself. Behind w writes stands what w single sectors make of the disk, whatever the run knew.
 */
public final class CutTest {
    private final VolumeTurner x = new VolumeTurner(400);
    private final Object disk = field(x, "disk");
    private final byte[] bytes = (byte[]) field(disk, "bytes");

    public static void main(String[] args) {
        CutTest test = new CutTest();
        test.fill();
        byte[] table = test.bytes.clone();
        test.way(0, "forward");
        byte[] inode = test.bytes.clone();
        Due.is("kind", test.x.kind(), 2);
        test.way(1, "backward");
        Due.is("kind", test.x.kind(), 1);
        test.tableIsBack(table);
        test.goesOn(table, inode);
        test.toldRuns(table);
        Due.finish();
    }

    private static Object field(Object of, String name) {
        try {
            Field f = of.getClass().getDeclaredField(name);
            f.setAccessible(true);
            return f.get(of);
        } catch (ReflectiveOperationException e) {
            throw new IllegalStateException(e);
        }
    }

    /** One run, cut behind so many writes, on an object that has seen nothing but this disk. */
    private static void cutRun(VolumeTurner of, int ask, int writes) {
        try {
            Object disk = field(of, "disk");
            Object turner = field(of, "turner");
            Method supply = disk.getClass().getDeclaredMethod("supply", int.class);
            Method turn = turner.getClass().getDeclaredMethod("turn", int.class, int.class);
            supply.setAccessible(true);
            turn.setAccessible(true);
            supply.invoke(disk, writes);
            turn.invoke(turner, ask, 128);
        } catch (ReflectiveOperationException e) {
            throw new IllegalStateException(e);
        }
    }

    /** What a run on that disk leaves if it is cut. */
    private static byte[] left(byte[] from, int ask, int writes) {
        VolumeTurner y = new VolumeTurner(from.length / 512);
        byte[] its = (byte[]) field(field(y, "disk"), "bytes");
        System.arraycopy(from, 0, its, 0, from.length);
        cutRun(y, ask, writes);
        return its;
    }

    private void fill() {
        x.format(4, 8, 2, 5);
        x.poke(3, 7, 8);
        x.poke(5, 9, 10);
        Feed.make(x, "some file", false);
        x.grow(0, 20000, 1);
        Feed.make(x, "d", true);
        x.enter(1);
        Feed.make(x, "in it", false);
        x.grow(0, 50000, 2);
        x.up();
        Due.is("plan", x.plan(128, 0), 0);
    }

    private static int[] changedSectors(byte[] a, byte[] b) {
        int n = a.length / 512;
        int[] all = new int[n];
        int count = 0;
        for (int s = 0; s < n; s++) {
            if (!Arrays.equals(a, 512 * s, 512 * s + 512, b, 512 * s, 512 * s + 512)) {
                all[count] = s;
                count++;
            }
        }
        return Arrays.copyOf(all, count);
    }

    /** Every write of a run on its own: one sector at most, never sector 0, 1, 6 or one of the tables. */
    private void way(int ask, String name) {
        byte[] from = bytes.clone();
        Due.is(name + " without power", changedSectors(from, left(from, ask, 0)).length, 0);
        byte[] before = from;
        int seen = 0;
        for (int w = 1; w <= 300; w++) {
            byte[] now = left(from, ask, w);
            int[] changed = changedSectors(before, now);
            Due.is(name + ", sectors of write " + w, changed.length <= 1, true);
            for (int sector : changed) {
                boolean kept = sector < 2 || sector == 6 || sector >= 8 && sector < 10;
                Due.is(name + ", write " + w + " of sector " + sector, kept, false);
                seen++;
            }
            before = now;
        }
        Due.is(name + " changes something", seen > 8, true);
        cutRun(x, ask, 300);
        Due.is(name + " to the end", changedSectors(before, bytes).length, 0);
        Due.is(name + " has no more writes", changedSectors(before, left(from, ask, -1)).length, 0);
    }

    /** But for the sectors of free clusters all are as they were. */
    private void tableIsBack(byte[] table) {
        for (int sector : changedSectors(table, bytes)) {
            Due.is("sector " + sector + " is of a free cluster", x.byteAt(sector, 0), -1);
        }
    }

    /** From what any cut leaves, an object that knows nothing else comes to either end. */
    private void goesOn(byte[] table, byte[] inode) {
        for (int w = 0; w <= 300; w++) {
            for (int way = 0; way < 2; way++) {
                byte[] state = left(way == 0 ? table : inode, way, w);
                checkEnd(left(state, 0, -1), inode, 0, w);
                checkEnd(left(state, 1, -1), table, 1, w);
                for (int more = 1; more < 120; more += 23) {
                    byte[] worse = left(state, more & 1, more);
                    checkEnd(left(worse, 0, -1), inode, 0, w);
                    checkEnd(left(worse, 1, -1), table, 1, w);
                }
            }
        }
    }

    /** The runs that fail() tells are cut just so: also free clusters are as they leave them. */
    private void toldRuns(byte[] table) {
        for (int w = 0; w <= 150; w += 3) {
            System.arraycopy(table, 0, bytes, 0, table.length);
            byte[] due = left(left(left(table, 0, w), 1, 2 * w), 0, w / 2);
            x.fail(0, w);
            x.fail(1, 2 * w);
            x.fail(0, w / 2);
            Due.is("run", x.run(1, 128), 0);
            Due.is("disk behind " + w, changedSectors(bytes, left(due, 1, -1)).length, 0);
        }
    }

    private static void checkEnd(byte[] got, byte[] due, int ask, int w) {
        VolumeTurner y = new VolumeTurner(got.length / 512);
        byte[] its = (byte[]) field(field(y, "disk"), "bytes");
        System.arraycopy(due, 0, its, 0, due.length);
        for (int sector : changedSectors(due, got)) {
            Due.is("asked for " + ask + " behind " + w + " writes, sector " + sector, y.byteAt(sector, 0), -1);
        }
        Due.is("kind", y.kind(), ask == 0 ? 2 : 1);
    }
}
