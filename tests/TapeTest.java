/** Promises 1 to 4: a new object, feed, end, clear. */
public final class TapeTest {
    public static void main(String[] args) {
        Due.is("NONE", VolumeTurner.NONE, -1);
        sectors();
        order();
        limits();
        readyBytes();
        clear();
        usedUp();
        Due.finish();
    }

    private static void sectors() {
        int[][] all = {{256, 256}, {255, 256}, {0, 256}, {-5, 256}, {Integer.MIN_VALUE, 256}, {257, 256}, {258, 258},
            {299, 298}, {1023, 1022}, {1024, 1024}, {1025, 1024}, {Integer.MAX_VALUE, 1024}};
        for (int[] pair : all) {
            VolumeTurner x = new VolumeTurner(pair[0]);
            Due.is("last sector of " + pair[0], x.byteAt(pair[1] - 1, 511), 0);
            Due.is("behind the last sector of " + pair[0], x.byteAt(pair[1], 0), -1);
            Due.is("kind of a new disk", x.kind(), 0);
            Due.is("clusters of " + pair[0], x.format(8, 8, 1, 0), (pair[1] - 9) / 8 > 126 ? (pair[1] - 10) / 8 : (pair[1] - 9) / 8);
            Due.is("sectors of " + pair[0], Feed.number(x, 0, 32, 4), pair[1]);
        }
    }

    private static VolumeTurner withFile() {
        VolumeTurner x = new VolumeTurner(300);
        x.format(2, 8, 1, 0);
        Feed.make(x, "F", false);
        return x;
    }

    private static void order() {
        VolumeTurner x = withFile();
        x.feed(0x01020304, 0x05060708, 0x090a0b0c, 0x0d0e0f10, 0xf1f2f3f4);
        Due.is("end(20)", x.end(20), 20);
        Due.is("write", x.write(0), 20);
        for (int i = 0; i < 20; i++) {
            Due.is("byte " + i, x.content(0, i), i < 16 ? i + 1 : 0xf1 + i - 16);
        }
    }

    private static void limits() {
        VolumeTurner x = withFile();
        Due.is("end(-1)", x.end(-1), -1);
        Due.is("end(21)", x.end(21), -1);
        Due.is("end(min)", x.end(Integer.MIN_VALUE), -1);
        Due.is("end(max)", x.end(Integer.MAX_VALUE), -1);
        Due.is("end(0)", x.end(0), 0);
        for (int i = 1; i <= 204; i++) {
            Due.is("end(20)", x.end(20), 20 * i);
        }
        Due.is("end(17) of 4080", x.end(17), -1);
        Due.is("end(16) of 4080", x.end(16), 4096);
        Due.is("end(1) of 4096", x.end(1), -1);
        Due.is("end(0) of 4096", x.end(0), 4096);
        Due.is("write", x.write(0), 4096);
    }

    private static void readyBytes() {
        VolumeTurner x = withFile();
        x.feed(0x11223344, 0, 0, 0, 0);
        x.end(-1);
        Due.is("end(2)", x.end(2), 2);
        Due.is("end(2) again", x.end(2), 4);
        x.feed(0x55000000, 0, 0, 0, 0);
        Due.is("end(0)", x.end(0), 4);
        Due.is("end(1) behind end(0)", x.end(1), 5);
        x.feed(0x66000000, 0, 0, 0, 0);
        x.feed(0x77000000, 0, 0, 0, 0);
        x.end(1);
        x.write(0);
        int[] due = {0x11, 0x22, 0, 0, 0, 0x77};
        for (int i = 0; i < due.length; i++) {
            Due.is("byte " + i, x.content(0, i), due[i]);
        }
    }

    private static void clear() {
        VolumeTurner x = withFile();
        x.feed(0x0a0b0c0d, 0, 0, 0, 0);
        x.end(4);
        x.feed(0x10111213, 0, 0, 0, 0);
        x.clear();
        Due.is("end(3) behind clear", x.end(3), 3);
        Due.is("write", x.write(0), 3);
        Due.is("byte 0", x.content(0, 0), 0x10);
        Due.is("byte 2", x.content(0, 2), 0x12);
    }

    /** Whatever comes of a call that reads the tape, it is empty then. */
    private static void usedUp() {
        VolumeTurner x = new VolumeTurner(300);
        Feed.text(x, "ABC");
        Due.throwsState("make without a volume", () -> x.make(false));
        Due.is("tape behind make", x.end(0), 0);
        Feed.text(x, "ABC");
        Due.throwsState("write without a volume", () -> x.write(0));
        Due.is("tape behind write", x.end(0), 0);
        Feed.text(x, "abc");
        Due.throwsArgument("format with small letters", () -> x.format(2, 8, 1, 0));
        Due.is("tape behind format", x.end(0), 0);
        Due.is("format", x.format(2, 8, 1, 0), 145);
        Feed.text(x, "ABC");
        Due.throwsIndex("write to none", () -> x.write(0));
        Due.is("tape behind write", x.end(0), 0);
        Feed.text(x, "ABC");
        Due.throwsIndex("grow leaves the tape", () -> x.grow(0, 1, 1));
        Due.is("tape behind grow", x.end(0), 3);
    }
}
