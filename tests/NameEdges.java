/** The edges that the document names for names, short names and parts: fault (8), letter (11), make (16). */
final class NameEdges {
    private static final String BYTES_OF_SHORT_NAMES = "ABCDEFGHIJKLMNOPQRSTUVWXYZ0123456789!#$%&'()-@^_`{}~";
    private static final String NOT_IN_NAMES = "\"*/:<>?\\|\u007f";
    private static final String WRONG = "throws.IllegalArgumentException";
    /** Of an empty volume: the root's sector. */
    private static final int ROOT = 10;

    private NameEdges() {
    }

    static void all() {
        shortNames();
        parts();
        units();
        alike();
        madeShortNames();
        madeParts();
        inventedNames();
        wrongNames();
    }

    /** 256 sectors: C = 2, V = 9, one table of one sector, A = 10, K = 123; nothing in the root. */
    private static Counted empty() {
        Counted v = new Counted(256);
        v.format(2, 9, 1, 0);
        return v;
    }

    /** The fault with these 11 bytes as the short name of the only file, or of the label. */
    private static void shortName(String bytes, boolean label, int due) {
        Counted v = empty();
        v.file("E");
        for (int i = 0; i < 11; i++) {
            v.poke(ROOT, i, bytes.charAt(i));
        }
        if (label) {
            v.poke(ROOT, 11, 8);
        }
        Due.is("fault with " + bytes + (label ? " as a label" : ""), v.fault(), due);
    }

    private static void shortNames() {
        Sentence.holds(8, "8 bytes and 3 bytes, each perhaps with blanks at its end alone; the first one is no blank", () -> {
            String[] right = {"A          ", "AB         ", "ABCDEFGH   ", "A       B  ", "A       BC ", "A       BCD", "ABCDEFGHIJK",
                "ABCDEFG X  "};
            String[] wrong = {"           ", " A         ", "A B        ", "A      B   ", "ABCDEF H   ", "A        B ", "A         B",
                "A       B C", "A        BC", "        ABC"};
            for (String bytes : right) {
                shortName(bytes, false, 0);
            }
            for (String bytes : wrong) {
                shortName(bytes, false, 4);
            }
        });
        Sentence.holds(8, "others are A .. Z, 0 .. 9 or one of ! # $ % & ' ( ) - @ ^ _ ` { } ~", () -> {
            for (int b = 0; b < 256; b++) {
                boolean fits = BYTES_OF_SHORT_NAMES.indexOf(b) >= 0;
                shortName("A" + (char) b + "         ", false, fits || b == ' ' ? 0 : 4);
                shortName("A       XY" + (char) b, false, fits || b == ' ' ? 0 : 4);
                // As the first byte 0 ends the directory and 229 makes the slot empty.
                shortName((char) b + "          ", false, fits || b == 0 || b == 229 ? 0 : 4);
            }
        });
        Sentence.holds(8, "(a label may have blanks anywhere but at its beginning)", () -> {
            String[] right = {"A          ", "A B C D E F", "A         B", "A        B ", "A       B C", "ABCDEF H   "};
            String[] wrong = {" A         ", "           ", "a          ", "A.         ", "A\0         "};
            for (String bytes : right) {
                shortName(bytes, true, 0);
            }
            for (String bytes : wrong) {
                shortName(bytes, true, 4);
            }
        });
        Sentence.holds(11, "Shown: the 8 without blanks, and if the 3 are not blank, a point and these without blanks.", () -> {
            String[][] all = {{"A          ", "A"}, {"ABCDEFGH   ", "ABCDEFGH"}, {"A       B  ", "A.B"}, {"ABCDEFGHIJK", "ABCDEFGH.IJK"},
                {"ABCDEFG IJ ", "ABCDEFG.IJ"}};
            for (String[] x : all) {
                Counted v = empty();
                v.file("E");
                for (int i = 0; i < 11; i++) {
                    v.poke(ROOT, i, x[0].charAt(i));
                }
                Due.is("name of " + x[0], v.nameOf(0), x[1]);
            }
        });
    }

    /** The volume's fault if a byte of the part in a slot is another one. */
    private static void part(String name, int slot, int at, int value, int due) {
        Counted v = empty();
        v.file(name);
        v.poke(ROOT, 32 * slot + at, value);
        Due.is("fault of " + name + " with " + value + " at " + at + " of slot " + slot, v.fault(), due);
    }

    private static void parts() {
        String two = "fourteen units";
        Sentence.holds(8, "as many as a thirteenth of its units (up)", () -> {
            Counted v = empty();
            v.file(two);
            // The second part with nothing but the end of a name of 13 units.
            v.pokeNumber(ROOT, 1, 2, 0);
            v.pokeNumber(ROOT, 3, 2, 65535);
            Due.is("13 units in two parts", v.fault(), 4);
            Counted w = empty();
            w.file(two);
            w.pokeNumber(ROOT, 32 + 30, 2, 0);
            Due.is("12 units, then units again", w.fault(), 4);
            Counted u = empty();
            u.file("thirteen unit");
            Due.is("13 units in one part", u.fault(), 0);
            Due.is("the entry's slot", u.textAt(ROOT, 32, 8), "THIRTE~1");
        });
        Sentence.holds(8, "if PARTS stand directly before it", () -> {
            Counted v = empty();
            v.file("x");
            // The entry once more behind itself, then an empty slot between it and its part.
            for (int at = 0; at < 32; at++) {
                v.poke(ROOT, 64 + at, v.byteAt(ROOT, 32 + at));
            }
            v.poke(ROOT, 32, 229);
            Due.is("an empty slot between them", v.fault(), 4);
            v.poke(ROOT, 0, 229);
            Due.is("no part", v.fault(), 0);
            Due.is("then its name is the short one", v.nameOf(0), "X~1");
        });
        Sentence.holds(8, "their numbers at 0 (1) downwards to 1, 64 more in the first one", () -> {
            part(two, 0, 0, 64 + 2, 0);
            for (int wrong : new int[] {2, 64 + 1, 64 + 3, 128 + 2, 64, 64 + 128 + 2, 0, 229}) {
                part(two, 0, 0, wrong, wrong == 0 ? 0 : 4);
            }
            part(two, 1, 0, 1, 0);
            for (int wrong : new int[] {64 + 1, 2, 64, 0, 229, 129}) {
                part(two, 1, 0, wrong, 4);
            }
            part("one", 0, 0, 1, 4);
            part("one", 0, 0, 64 + 1, 0);
            part("one", 0, 0, 64 + 21, 4);
        });
        Sentence.holds(8, "at 12 (1) 0, at 26 (2) 0; at 13 (1) the SUM of the short name", () -> {
            for (int slot = 0; slot < 2; slot++) {
                for (int at : new int[] {12, 26, 27}) {
                    part(two, slot, at, 0, 0);
                    part(two, slot, at, 1, 4);
                    part(two, slot, at, 128, 4);
                }
                int sum = sum("FOURTE~1   ");
                part(two, slot, 13, sum, 0);
                part(two, slot, 13, sum ^ 1, 4);
                part(two, slot, 13, sum ^ 128, 4);
            }
            part(two, 2, 0, 'G', 4);
            part(two, 2, 10, 'G', 4);
        });
        Sentence.holds(8, "0, then for each of its 11 bytes: (the lowest bit times 128 + the other seven bits, as a number) + the byte,"
                + " of which eight bits are kept", () -> {
            String[][] all = {{"a", "A~1        "}, {"zzzzzzzzz.zzz", "ZZZZZZ~1ZZZ"}, {"a.b", "A~1     B  "}, {"~~~~~~~ ~", "~~~~~~~1   "},
                {"!!!!!!!!!", "!!!!!!~1   "}, {"{}{}{}{}{.}}}", "{}{}{}~1}}}"}};
            for (String[] x : all) {
                Counted v = empty();
                v.file(x[0]);
                Due.is("short name of " + x[0], v.textAt(ROOT, 32, 11), x[1]);
                Due.is("sum of " + x[1], v.byteAt(ROOT, 13), sum(x[1]));
                Due.is("fault", v.fault(), 0);
            }
        });
    }

    private static int sum(String shortName) {
        int sum = 0;
        for (int i = 0; i < shortName.length(); i++) {
            int turned = sum % 2 == 1 ? 128 + sum / 2 : sum / 2;
            sum = (turned + shortName.charAt(i)) % 256;
        }
        return sum;
    }

    /** The fault if a unit of "abcde.fgh" is another one. */
    private static void unit(int number, int unit, int due) {
        Counted v = empty();
        v.file("abcde.fgh");
        v.pokeNumber(ROOT, number < 5 ? 1 + 2 * number : 4 + 2 * number, 2, unit);
        Due.is("fault with unit " + unit + " as number " + number, v.fault(), due);
    }

    private static void units() {
        Sentence.holds(8, "The name's units come first, then (if there is room) a 0, then 65535 to the end.", () -> {
            unit(9, 0, 0);
            unit(9, 'i', 4);
            unit(9, 65535, 4);
            unit(10, 0, 4);
            unit(10, 65534, 4);
            unit(8, 0, 4);
            part("twelve units", 0, 30, 1, 4);
            part("twelve units", 0, 30, 'x', 0);
            part("twelve units", 0, 31, 255, 0);
            part("fourteen units", 0, 3, 1, 4);
            part("fourteen units", 0, 31, 0, 4);
        });
        Sentence.holds(8, "A name has 1 to 255 units", () -> {
            Counted v = empty();
            v.file("abcdefghijklmnopqrstuvwxyz".repeat(10).substring(0, 255));
            Due.is("255 units", v.fault(), 0);
            // Unit 255 is the ninth of part 20, which stands in slot 0: the 0 behind the name.
            Due.is("the 0", v.number(ROOT, 20, 2), 0);
            v.pokeNumber(ROOT, 20, 2, 'x');
            Due.is("without a 0", v.fault(), 4);
            v.pokeNumber(ROOT, 22, 2, 0);
            Due.is("256 units", v.fault(), 4);
            v.format(2, 9, 1, 0);
            for (int i = 0; i < 5; i++) {
                v.file((char) ('a' + i) + "x".repeat(254));
            }
            Due.is("five such names", v.items(), 5);
            Due.is("the first of the last one", v.letter(4, 0), 'e');
            Due.is("the last of it", v.letter(4, 254), 'x');
            Due.is("behind it", v.letter(4, 255), -1);
            Counted w = empty();
            w.file("x");
            Due.is("one unit", w.fault(), 0);
            w.pokeNumber(ROOT, 1, 2, 0);
            w.pokeNumber(ROOT, 3, 2, 65535);
            Due.is("no unit", w.fault(), 4);
        });
        Sentence.holds(8, "none is below 32, one of \" * / : < > ? \\ |, 127, or 55296 .. 57343, or above 65533", () -> {
            for (int unit = 1; unit < 130; unit++) {
                unit(1, unit, unit < 32 || NOT_IN_NAMES.indexOf(unit) >= 0 ? 4 : 0);
            }
            int[] right = {255, 256, 55295, 57344, 65533};
            int[] wrong = {55296, 55297, 56320, 57343, 65534, 65535};
            for (int unit : right) {
                unit(1, unit, 0);
                unit(8, unit, 0);
            }
            for (int unit : wrong) {
                unit(1, unit, 4);
                unit(8, unit, 4);
            }
        });
        Sentence.holds(8, "the last one is neither a blank nor a point", () -> {
            unit(8, ' ', 4);
            unit(8, '.', 4);
            unit(8, '-', 0);
            unit(7, ' ', 0);
            unit(7, '.', 0);
            unit(0, ' ', 0);
            unit(0, '.', 0);
        });
        Sentence.holds(8, "it isn't . or .. .", () -> {
            Counted v = empty();
            v.file("x");
            v.poke(ROOT, 1, '.');
            Due.is("the name .", v.fault(), 4);
            Counted w = empty();
            w.file("xy");
            w.poke(ROOT, 1, '.');
            w.poke(ROOT, 3, '.');
            Due.is("the name ..", w.fault(), 4);
        });
    }

    /** Two files: what making the second one answers. */
    private static void twice(String first, String second, boolean alike) {
        Counted v = empty();
        v.file(first);
        v.name(second);
        Due.is("make " + second + " behind " + first, Pair.outcome(() -> v.make(false)), alike ? WRONG : "1");
        Due.is("fault", v.fault(), 0);
    }

    private static void alike() {
        Sentence.holds(16, "Names are ALIKE if their units are, a .. z being taken for A .. Z.", () -> {
            twice("a name of it", "A NAME OF IT", true);
            twice("azAZ+", "AZaz+", true);
            twice("x`y+", "x@y+", false);
            twice("x{y+", "x[y+", false);
            twice("\u00e9", "\u00c9", false);
            twice("\u0101", "\u0100", false);
            twice("\u0161", "a", false);
            twice("name+", "name+1", false);
            twice("name+1", "name+", false);
            twice("ABC", "abc", true);
            twice("abc", "ABC", true);
            twice("x".repeat(255), "X".repeat(255), true);
            twice("x".repeat(254), "X".repeat(255), false);
        });
        Sentence.holds(8, "No two names of a directory are alike, no two short names (11 bytes) the same; labels do not count for this.", () -> {
            Counted v = empty();
            v.file("ab`");
            v.file("ac`");
            // Slots: the part of the first, AB`~1, the part of the second, AC`~1.
            v.poke(ROOT, 64 + 3, 'b');
            Due.is("the same names", v.fault(), 5);
            v.poke(ROOT, 64 + 3, 'B');
            Due.is("names that are alike", v.fault(), 5);
            v.poke(ROOT, 64 + 5, '@');
            Due.is("@ is not taken for `", v.fault(), 0);
            v.poke(ROOT, 64 + 3, 'c');
            v.poke(ROOT, 96 + 1, 'B');
            v.poke(ROOT, 64 + 13, sum("AB`~1      "));
            Due.is("the same short name", v.fault(), 5);
            v.poke(ROOT, 96 + 11, 1);
            Due.is("with other bits", v.fault(), 5);
            v.poke(ROOT, 96 + 8, 'X');
            v.poke(ROOT, 64 + 13, sum("AB`~1   X  "));
            Due.is("another byte behind the eight", v.fault(), 0);
            Counted u = empty();
            u.file("X");
            u.file("long name");
            u.file("LONGNA~2");
            u.poke(ROOT, 96 + 7, '1');
            Due.is("the same short name without a part", u.fault(), 5);
            Counted w = new Counted(256);
            w.text("LABEL");
            w.format(2, 9, 1, 0);
            Due.is("a file with the label's name", w.file("LABEL"), 0);
            Due.is("fault", w.fault(), 0);
            w.name("label");
            Due.throwsArgument("but not twice", () -> w.make(false));
            w.directory("D");
            w.enter(1);
            Due.is("in another directory", w.file("LABEL"), 0);
            Due.is("fault", w.fault(), 0);
        });
        Sentence.holds(16, "or one here is alike, or it is a short name as shown that an item here has as its short name.", () -> {
            twice("long name", "LONGNA~1", true);
            twice("long name", "longna~1", false);
            twice("long name", "LONGNA~2", false);
            twice("long name.txt", "LONGNA~1.TXT", true);
            twice("long name.txt", "LONGNA~1", false);
            twice("LONGNA~1", "long name", false);
            Counted v = empty();
            v.file("long name");
            v.directory("D");
            v.enter(1);
            Due.is("in another directory", v.file("LONGNA~1"), 0);
        });
    }

    private static void madeShortNames() {
        Sentence.holds(16, "A NAME that is a short name as shown (at most 8 and 3 characters of those above, no small letters) gets no parts.", () -> {
            String[][] plain = {{"A", "A          "}, {"ABCDEFGH", "ABCDEFGH   "}, {"A.B", "A       B  "}, {"ABCDEFGH.IJK", "ABCDEFGHIJK"},
                {"!#$%&'()", "!#$%&'()   "}, {"-@^_`{}~.0", "-@^_`{}~0  "}};
            for (String[] x : plain) {
                Counted v = empty();
                v.file(x[0]);
                Due.is("short name of " + x[0], v.textAt(ROOT, 0, 11), x[1]);
                Due.is("no slot more", v.byteAt(ROOT, 32), 0);
            }
            String[] others = {"ABCDEFGHI", "ABCDEFGH.IJKL", "ABCDEFGHI.J", ".A", "A.B.C", "A B", "a", "ABCDEFGh", "A.b", "A+", "A..B",
                "\u00c9", " A", "[", "A.B C"};
            for (String name : others) {
                Counted v = empty();
                v.file(name);
                Due.is("a part of " + name, v.byteAt(ROOT, 0), 65);
                Due.is("its bits", v.byteAt(ROOT, 11), 15);
                Due.is("behind its entry", v.byteAt(ROOT, 64), 0);
            }
        });
    }

    private static void madeParts() {
        Sentence.holds(16, "and 13 UNITS each, 5 at 1, 6 at 14, 2 at 28 (2 bytes each), which follow one another from part 1 on.", () -> {
            Counted v = empty();
            String name = "abcdefghijklmnopqrstuvwxyz\u4e2d";
            v.file(name);
            int[] places = {1, 3, 5, 7, 9, 14, 16, 18, 20, 22, 24, 28, 30};
            for (int part = 1; part <= 3; part++) {
                for (int i = 0; i < 13; i++) {
                    int j = 13 * (part - 1) + i;
                    int due = j < 27 ? name.charAt(j) : j == 27 ? 0 : 65535;
                    Due.is("unit " + i + " of part " + part, v.number(ROOT, 32 * (3 - part) + places[i], 2), due);
                }
            }
            Due.is("name", v.nameOf(0), "abcdefghijklmnopqrstuvwxyz\u00e4\u00b8\u00ad");
        });
        Sentence.holds(16, "Another one gets as many parts as it needs, and a short name", () -> {
            int[][] all = {{1, 1}, {12, 1}, {13, 1}, {14, 2}, {25, 2}, {26, 2}, {27, 3}, {247, 19}, {248, 20}, {254, 20}, {255, 20}};
            for (int[] x : all) {
                Counted v = empty();
                v.file("n".repeat(x[0]));
                Due.is("the first part of " + x[0] + " units", v.byteAt(ROOT, 0), 64 + x[1]);
                int last = 32 * (x[1] - 1);
                Due.is("the last one", v.byteAt(ROOT + last / 512, last % 512), x[1] == 1 ? 65 : 1);
                int entry = 32 * x[1];
                Due.is("the entry", v.byteAt(ROOT + entry / 512, entry % 512), 'N');
                Due.is("the slot behind", v.byteAt(ROOT + (entry + 32) / 512, (entry + 32) % 512), 0);
                // Behind the name comes a 0, if there is room.
                int behind = x[0] % 13;
                int at = behind < 5 ? 1 + 2 * behind : behind < 11 ? 4 + 2 * behind : 6 + 2 * behind;
                Due.is("behind the last unit", v.number(ROOT, at, 2), behind == 0 ? 'n' : 0);
                Due.is("the last unit of the part", v.number(ROOT, 30, 2), behind == 0 ? 'n' : behind == 12 ? 0 : 65535);
                Due.is("fault", v.fault(), 0);
            }
        });
    }

    /** The short name that a name gets in an empty root. */
    private static void invented(String name, String due) {
        Counted v = empty();
        v.file(name);
        int slot = (name.length() + 12) / 13;
        Due.is("short name of " + name, v.textAt(ROOT + slot / 16, slot % 16 * 32, 11), due);
    }

    private static void inventedNames() {
        Sentence.holds(16, "BASE, of the units before the last point (of all, if there is none, or nothing before it)", () -> {
            invented("abc.de.fg", "ABCDE~1 FG ");
            invented("abc", "ABC~1      ");
            invented(".abc", "ABC~1      ");
            invented("..abc", "~1      ABC");
            invented(" .abc", "~1      ABC");
            invented("a.b", "A~1     B  ");
        });
        Sentence.holds(16, "blanks and points go, a .. z become capitals, what may not stand in a short name (also any other letter) becomes _", () -> {
            invented(" a b", "AB~1       ");
            invented("a.b.c.d", "ABC~1   D  ");
            invented("azAZ+", "AZAZ_~1    ");
            invented("+,;=[]", "______~1   ");
            invented("a`{b", "A`{B~1     ");
            invented("\u00e9\u00c9\u4e2d", "___~1      ");
            invented("\u0141a", "_A~1       ");
        });
        Sentence.holds(16, "EXTENSION likewise of the units behind the last point (none, if there is none, or nothing before it),"
                + " of which the first three stay (of what has not gone).", () -> {
            invented("a.bcd", "A~1     BCD");
            invented("a.bcde", "A~1     BCD");
            invented("a.b c d e", "A~1     BCD");
            invented("a. b", "A~1     B  ");
            invented("a.+", "A~1     _  ");
            invented("abc", "ABC~1      ");
            invented(".bcd", "BCD~1      ");
            invented("A.BCDE", "A~1     BCD");
        });
        Sentence.holds(16, "Then ~ and a number k from 1 on: the base's first 7 - (digits of k) characters, ~, k", () -> {
            invented("abcde+", "ABCDE_~1   ");
            invented("abcdef+", "ABCDEF~1   ");
            invented("a", "A~1        ");
            Counted v = new Counted(1024);
            v.format(8, 9, 1, 0);
            for (int i = 1; i <= 100; i++) {
                v.file("abcdefgh" + i);
            }
            // Each has a part and an entry: the k-th entry is slot 2 * k - 1, behind sector 10.
            String[] due = {"ABCDEF~1   ", "ABCDEF~9   ", "ABCDE~10   ", "ABCDE~99   ", "ABCD~100   "};
            int[] numbers = {1, 9, 10, 99, 100};
            for (int i = 0; i < due.length; i++) {
                int slot = 2 * numbers[i] - 1;
                // The root's first cluster is full with slot 127: the next one is cluster 3, right behind it.
                Due.is("short name " + numbers[i], v.textAt(ROOT + slot / 16, slot % 16 * 32, 11), due[i]);
            }
        });
        Sentence.holds(16, "the first k for which no short name of the directory's items is the same.", () -> {
            Counted v = new Counted(256);
            v.text("ABC~1");
            v.format(2, 9, 1, 0);
            v.file("abc");
            Due.is("the label has the first one", v.textAt(ROOT, 64, 11), "ABC~1      ");
            v.file("ABC~3");
            v.file("a.bc");
            Due.is("another extension", v.textAt(ROOT, 5 * 32, 11), "A~1     BC ");
            v.file("abc+");
            Due.is("another base", v.textAt(ROOT, 7 * 32, 11), "ABC_~1     ");
            v.file("a bc");
            Due.is("the second one", v.textAt(ROOT, 9 * 32, 11), "ABC~2      ");
            v.file("ab c");
            Due.is("the third one is another's", v.textAt(ROOT, 11 * 32, 11), "ABC~4      ");
            v.remove(0);
            v.file(" abc");
            Due.is("the first one is left", v.textAt(ROOT, 64, 11), "ABC~1      ");
            v.directory("D");
            v.enter(6);
            v.file("abc");
            Due.is("in another directory", v.textAt(12, 96, 11), "ABC~1      ");
        });
    }

    private static void wrongNames() {
        Sentence.holds(16, "IllegalArgumentException: the tape is no name (or an odd number of bytes)", () -> {
            Counted v = empty();
            String[] wrong = {"", ".", "..", "...", "a.", "a ", " ", "a .", "\u001f", "\u0000", "a\u0000", "\u007f", "\ud800", "\udfff",
                "\ufffe", "\uffff", "x".repeat(256)};
            for (String name : wrong) {
                v.name(name);
                Due.throwsArgument("make " + name, () -> v.make(false));
                Due.is("the tape is used up", v.end(0), 0);
            }
            for (char c : NOT_IN_NAMES.toCharArray()) {
                v.name("a" + c + "b");
                Due.throwsArgument("make with " + c, () -> v.make(true));
            }
            v.tape(new byte[] {0, 'A', 0});
            Due.throwsArgument("three bytes", () -> v.make(false));
            v.tape(new byte[] {'A'});
            Due.throwsArgument("one byte", () -> v.make(false));
            Due.is("nothing was made", v.items(), 0);
            Due.is("nothing is changed", v.byteAt(ROOT, 0), 0);
            Due.is("three bytes and one", v.end(0), 0);
            v.tape(new byte[] {0, 'A', 0, 'B'});
            Due.is("four bytes", v.make(false), 0);
        });
        Sentence.holds(16, "its name is the tape, two bytes a unit, the higher one first", () -> {
            Counted v = empty();
            String[] right = {"a", " a", ".a", "\u0080", "\ud7ff", "\ue000", "\ufffd", "~", "!", "x".repeat(255)};
            for (int i = 0; i < right.length; i++) {
                Due.is("make " + right[i], v.file(right[i]), i);
            }
            Due.is("items", v.items(), right.length);
            Due.is("the higher one first", v.letter(4, 0) + v.letter(4, 1) + v.letter(4, 2), 0xed + 0x9f + 0xbf);
            Counted w = empty();
            for (int i = 0; i < 204; i++) {
                w.end(20);
            }
            w.end(16);
            Due.throwsArgument("4096 bytes", () -> w.make(false));
        });
    }
}
