import java.nio.charset.StandardCharsets;

/**
 * A VolumeTurner whose calls are counted: of an object nothing is promised behind its 512th call, so
 * no test of a sentence may need more.
 */
final class Counted {
    static final int MOST = 512;

    private final VolumeTurner x;
    private int calls = 0;

    Counted(int sectors) {
        x = new VolumeTurner(sectors);
    }

    private VolumeTurner counted() {
        calls++;
        if (calls > MOST) {
            throw new AssertionError("the test needs more than " + MOST + " calls of one object");
        }
        return x;
    }

    int callsLeft() {
        return MOST - calls;
    }

    void feed(int a, int b, int c, int d, int e) {
        counted().feed(a, b, c, d, e);
    }

    int end(int n) {
        return counted().end(n);
    }

    void clear() {
        counted().clear();
    }

    int format(int cluster, int before, int tables, int id) {
        return counted().format(cluster, before, tables, id);
    }

    boolean poke(int sector, int at, int value) {
        return counted().poke(sector, at, value);
    }

    int kind() {
        return counted().kind();
    }

    int fault() {
        return counted().fault();
    }

    int byteAt(int sector, int at) {
        return counted().byteAt(sector, at);
    }

    int items() {
        return counted().items();
    }

    int letter(int k, int i) {
        return counted().letter(k, i);
    }

    long about(int k, int what) {
        return counted().about(k, what);
    }

    int content(int k, int at) {
        return counted().content(k, at);
    }

    int enter(int k) {
        return counted().enter(k);
    }

    boolean up() {
        return counted().up();
    }

    int make(boolean directory) {
        return counted().make(directory);
    }

    int write(int k) {
        return counted().write(k);
    }

    int grow(int k, int n, int seed) {
        return counted().grow(k, n, seed);
    }

    int cut(int k, int size) {
        return counted().cut(k, size);
    }

    /** 0, so that it can stand where an answer is looked at. */
    int remove(int k) {
        counted().remove(k);
        return 0;
    }

    /** 0, so that it can stand where an answer is looked at. */
    int stamp(int k, int what, int day, int time) {
        counted().stamp(k, what, day, time);
        return 0;
    }

    int plan(int p, int what) {
        return counted().plan(p, what);
    }

    int target(int p, int cluster) {
        return counted().target(p, cluster);
    }

    boolean fail(int ask, int writes) {
        return counted().fail(ask, writes);
    }

    int run(int ask, int p) {
        return counted().run(ask, p);
    }

    // ---- calls that belong together

    void tape(byte[] bytes) {
        for (int i = 0; i < bytes.length; i += 20) {
            int[] words = new int[5];
            int n = Math.min(20, bytes.length - i);
            for (int j = 0; j < n; j++) {
                words[j / 4] |= (bytes[i + j] & 255) << 24 - 8 * (j % 4);
            }
            feed(words[0], words[1], words[2], words[3], words[4]);
            end(n);
        }
    }

    /** A byte of the tape for each character. */
    void text(String text) {
        tape(text.getBytes(StandardCharsets.ISO_8859_1));
    }

    /** Two bytes of the tape for each unit, also for those that no name may have. */
    void name(String name) {
        byte[] bytes = new byte[2 * name.length()];
        for (int i = 0; i < name.length(); i++) {
            bytes[2 * i] = (byte) (name.charAt(i) >> 8);
            bytes[2 * i + 1] = (byte) name.charAt(i);
        }
        tape(bytes);
    }

    int file(String name) {
        name(name);
        return make(false);
    }

    int directory(String name) {
        name(name);
        return make(true);
    }

    /** The number that stands in some bytes of a sector. */
    long number(int sector, int at, int bytes) {
        long v = 0;
        for (int i = bytes - 1; i >= 0; i--) {
            v = v << 8 | byteAt(sector, at + i) & 255;
        }
        return v;
    }

    String textAt(int sector, int at, int bytes) {
        StringBuilder b = new StringBuilder();
        for (int i = 0; i < bytes; i++) {
            b.append((char) byteAt(sector, at + i));
        }
        return b.toString();
    }

    void pokeNumber(int sector, int at, int bytes, long value) {
        for (int i = 0; i < bytes; i++) {
            poke(sector, at + i, (int) (value >> 8 * i));
        }
    }

    /** The name of item k here, a character for each byte. */
    String nameOf(int k) {
        StringBuilder b = new StringBuilder();
        for (int i = 0; i < 800; i++) {
            int letter = letter(k, i);
            if (letter == VolumeTurner.NONE) {
                break;
            }
            b.append((char) letter);
        }
        return b.toString();
    }
}
