import java.lang.management.ManagementFactory;

/** All calls of a run live in one room: an object makes its rows once and uses them again. */
public final class RoomTest {
    private static final long MOST_BYTES_OF_OBJECT = 700000;
    private static final long MOST_BYTES_OF_CALLS = 300000;

    public static void main(String[] args) {
        play();
        long[] used = play();
        Due.is("room of an object: " + used[0], used[0] < MOST_BYTES_OF_OBJECT, true);
        Due.is("room of its calls: " + used[1], used[1] < MOST_BYTES_OF_CALLS, true);
        Due.finish();
    }

    private static long allocated() {
        com.sun.management.ThreadMXBean threads = (com.sun.management.ThreadMXBean) ManagementFactory.getThreadMXBean();
        return threads.getThreadAllocatedBytes(Thread.currentThread().getId());
    }

    /** 512 calls with as many items as they can make, turned to and fro. */
    private static long[] play() {
        long before = allocated();
        VolumeTurner x = new VolumeTurner(1024);
        long made = allocated();
        x.format(2, 8, 2, 0);
        for (int i = 0; i < 120; i++) {
            x.feed(0x00620000 + 'A' + i % 26, 0x00630000 + 'a' + i / 26, 0x00640064, 0x00640064, 0x00640064);
            x.end(20);
            x.make(i % 4 == 0);
        }
        for (int i = 0; i < 20; i++) {
            x.grow(1, 1000, i);
            x.plan(64 << i % 3, 0);
            x.target(128, 5);
            x.items();
            x.about(i, 3);
        }
        for (int i = 0; i < 3; i++) {
            for (int j = 0; j < 15; j++) {
                x.fail(j % 2, 20 * j);
            }
            x.run(i % 2, 128);
        }
        return new long[] {made - before, allocated() - made};
    }
}
