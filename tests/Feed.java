import java.nio.charset.StandardCharsets;

/** Brings bytes and names to the tape of a VolumeTurner. */
final class Feed {
    private Feed() {
    }

    static void bytes(VolumeTurner x, byte[] bytes) {
        for (int i = 0; i < bytes.length; i += 20) {
            int[] words = new int[5];
            int n = Math.min(20, bytes.length - i);
            for (int j = 0; j < n; j++) {
                words[j / 4] |= (bytes[i + j] & 255) << 24 - 8 * (j % 4);
            }
            x.feed(words[0], words[1], words[2], words[3], words[4]);
            x.end(n);
        }
    }

    static void text(VolumeTurner x, String text) {
        bytes(x, text.getBytes(StandardCharsets.ISO_8859_1));
    }

    static void name(VolumeTurner x, String name) {
        bytes(x, name.getBytes(StandardCharsets.UTF_16BE));
    }

    static int make(VolumeTurner x, String name, boolean directory) {
        name(x, name);
        return x.make(directory);
    }

    /** The name of item k here, as far as its bytes are letters. */
    static String nameOf(VolumeTurner x, int k) {
        StringBuilder b = new StringBuilder();
        for (int i = 0; x.letter(k, i) != VolumeTurner.NONE; i++) {
            b.append((char) x.letter(k, i));
        }
        return b.toString();
    }

    /** Bytes of a sector as a number. */
    static long number(VolumeTurner x, int sector, int at, int bytes) {
        long v = 0;
        for (int i = bytes - 1; i >= 0; i--) {
            v = v << 8 | x.byteAt(sector, at + i);
        }
        return v;
    }

    static String textAt(VolumeTurner x, int sector, int at, int bytes) {
        StringBuilder b = new StringBuilder();
        for (int i = 0; i < bytes; i++) {
            b.append((char) x.byteAt(sector, at + i));
        }
        return b.toString();
    }
}
