import java.util.Arrays;

/**
 * A disk on which a volume of chained clusters is made, and then turned in place into a volume of
 * inodes, or back, while the power may fail behind any write of a sector, any number of times.
 *
 * <p>How a turn outlives the power: sector 0 and the tables are never written by a run. All that is
 * moved or built first comes to free clusters, which have no say in a table volume; then one write,
 * the mark in sector 7, tells that the clusters that move stand at their new places from now on.
 * Behind the mark the whole plan follows again from the tables and the moved directories, so a run
 * asked for either way can go on from there: forward until the first superblock stands (sector 2
 * is written last), backward until the mark is gone (sector 7 is written last).
 */
public final class VolumeTurner {
    public static final int NONE = -1;

    private static final int SECTOR = 512;
    private static final int BLOCK = 1024;
    private static final int SLOT = 32;
    private static final int SLOTS_OF_SECTOR = 16;
    private static final int SHORT_NAME = 11;
    private static final int BLANK = 32;
    private static final int POINT = 46;
    private static final int EMPTY = 229;

    private static final int READ_ONLY = 1;
    private static final int LABEL = 8;
    private static final int DIRECTORY = 16;
    private static final int ARCHIVE = 32;
    private static final int PART = 15;

    private static final int LOW_BITS = 268435455;
    private static final int LEAST_END = 268435448;
    private static final int CHAIN_END = 268435455;

    private static final int MOST_UNITS = 255;
    private static final int PART_UNITS = 13;
    private static final int MOST_PARTS = 20;
    private static final int MOST_ITEMS = 1000000;
    private static final int MOST_FAILS = 16;
    private static final int MOST_GROWTH = 400000;

    private static final int ABOUT_READ = 2;
    private static final int ABOUT_MADE = 3;
    private static final int ABOUT_WRITTEN = 4;
    private static final long MOST_SECONDS = 4294967295L;
    /** What makes a number of four bytes one without a sign. */
    private static final long FOUR_BYTES = 4294967295L;

    private static final int SUPER_SECTOR = 2;
    private static final int MARK_SECTOR = 7;
    private static final int MARK = 0x4E525554;
    private static final int MAGIC = 61267;
    private static final int ROOT_INODE = 2;
    private static final int RECORD_INODE = 11;
    private static final int INODE = 128;
    private static final int DIRECT = 12;
    private static final int POINTERS = 256;
    /** The record as an owner of blocks, beside the items from 0 on. */
    private static final int RECORD = -1;
    private static final String RECORD_NAME = ".turned";

    private static final int NO_VOLUME = 0;
    private static final int TABLE_VOLUME = 1;
    private static final int INODE_VOLUME = 2;
    private static final int FINISH = 0;
    private static final int BACK = 1;

    private final Disk disk;
    private final Tape tape;
    private final Table table;
    private final Tree tree;
    private final Reader reader;
    private final Editor editor;
    private final Plan planner;
    private final Turner turner;
    private final Inodes inodes;
    private final int[] failAsks = new int[MOST_FAILS];
    private final int[] failWrites = new int[MOST_FAILS];
    private int fails = 0;
    /** HERE: its item in a table volume, its inode in an inode volume; 0 is the root of either. */
    private int here = 0;
    /** Whether the disk has changed since the tree was read from it. */
    private boolean stale = true;
    private int lastFault = 1;
    private boolean hasRun = false;

    public VolumeTurner(int sectors) {
        int n = Math.min(Math.max(sectors, 256), 1024);
        disk = new Disk(n - n % 2);
        tape = new Tape();
        table = new Table(disk);
        tree = new Tree();
        reader = new Reader(disk, table, tree);
        editor = new Editor(disk, table, tree);
        planner = new Plan(disk, table, tree);
        inodes = new Inodes(disk);
        turner = new Turner(disk, table, tree, reader, planner, inodes);
    }

    public void feed(int a, int b, int c, int d, int e) {
        tape.prepare(0, a);
        tape.prepare(4, b);
        tape.prepare(8, c);
        tape.prepare(12, d);
        tape.prepare(16, e);
    }

    public int end(int n) {
        return tape.append(n);
    }

    public void clear() {
        tape.useUp();
    }

    public int format(int cluster, int before, int tables, int id) throws IllegalArgumentException {
        int labelLength = tape.useUp();
        int length = table.leastLength(cluster, before, tables);
        if (length == NONE || !tape.isLabel(labelLength)) {
            throw new IllegalArgumentException("no such volume or label");
        }
        disk.zero(0, disk.sectors * SECTOR);
        table.writeFirstSectors(cluster, before, tables, length, id);
        table.read();
        table.startTables();
        if (labelLength > 0) {
            editor.writeLabel(tape, labelLength);
        }
        hasRun = false;
        changed();
        here = 0;
        return table.clusters;
    }

    public boolean poke(int sector, int at, int value) {
        if (hasRun || !disk.has(sector, at) || sector == SUPER_SECTOR || sector == MARK_SECTOR) {
            return false;
        }
        disk.putOne(sector * SECTOR + at, value);
        changed();
        here = 0;
        return true;
    }

    public int kind() {
        return look();
    }

    public int fault() {
        // Nothing but a run and format changes an inode volume, so it is always as it was left.
        return look() == INODE_VOLUME ? 0 : lastFault;
    }

    public int byteAt(int sector, int at) {
        if (!disk.has(sector, at)) {
            return NONE;
        }
        int kind = look();
        boolean shown = kind == NO_VOLUME
                || kind == TABLE_VOLUME && table.shows(sector)
                || kind == INODE_VOLUME && inodes.shows(sector);
        return shown ? disk.one(sector * SECTOR + at) : NONE;
    }

    public int items() throws IllegalStateException {
        return readsInodes(look()) ? inodes.countIn(here) : tree.countIn(here);
    }

    public int letter(int k, int i) throws IllegalStateException, IndexOutOfBoundsException {
        if (readsInodes(look())) {
            return inodes.nameByte(entryHere(k), i);
        }
        return tree.nameByte(itemHere(k), i);
    }

    public long about(int k, int what) throws IllegalStateException, IndexOutOfBoundsException, IllegalArgumentException {
        boolean inode = readsInodes(look());
        int found = inode ? entryHere(k) : itemHere(k);
        if (what < 0 || what > 5) {
            throw new IllegalArgumentException("nothing to tell");
        }
        return inode ? inodes.tell(found, what) : tellItem(found, what);
    }

    public int content(int k, int at) throws IllegalStateException, IndexOutOfBoundsException {
        if (readsInodes(look())) {
            return inodes.fileByte(entryHere(k), at);
        }
        int item = itemHere(k);
        if (tree.isDirectory(item) || at < 0 || at >= tree.sizeOf(item)) {
            return NONE;
        }
        return disk.one(editor.placeOf(item, at));
    }

    public int enter(int k) throws IllegalStateException, IndexOutOfBoundsException, IllegalArgumentException {
        boolean inode = readsInodes(look());
        int found = inode ? entryHere(k) : itemHere(k);
        if (inode ? !inodes.isDirectory(found) : !tree.isDirectory(found)) {
            throw new IllegalArgumentException("a file");
        }
        here = inode ? inodes.inodeOf(found) : found;
        return inode ? inodes.countIn(here) : tree.countIn(here);
    }

    public boolean up() throws IllegalStateException {
        boolean inode = readsInodes(look());
        if (here == 0) {
            return false;
        }
        here = inode ? inodes.parentOf(here) : tree.parentOf(here);
        return true;
    }

    public int make(boolean directory) throws IllegalStateException, IllegalArgumentException, UnsupportedOperationException {
        int bytes = tape.useUp();
        wantSoundTable(look());
        if (!editor.readName(tape, bytes) || editor.clashes(here)) {
            throw new IllegalArgumentException("no name, or one that is here");
        }
        if (!editor.findSlots(here, directory)) {
            throw new UnsupportedOperationException("no room");
        }
        changed();
        return editor.addItem(here, directory);
    }

    public int write(int k) throws IllegalStateException, IndexOutOfBoundsException, IllegalArgumentException, UnsupportedOperationException {
        int bytes = tape.useUp();
        wantSoundTable(look());
        int item = fileHere(k);
        int from = lengthen(item, bytes);
        int place = editor.placeOnRoad(from - 1);
        for (int i = 0; i < bytes; i++) {
            place = editor.placeBehind(place, from + i);
            disk.putOne(place, tape.one(i));
        }
        return from + bytes;
    }

    public int grow(int k, int n, int seed) throws IllegalStateException, IndexOutOfBoundsException, IllegalArgumentException, UnsupportedOperationException {
        wantSoundTable(look());
        int item = fileHere(k);
        if (n < 0 || n > MOST_GROWTH) {
            throw new IllegalArgumentException("no such number of bytes");
        }
        int from = lengthen(item, n);
        int place = editor.placeOnRoad(from - 1);
        for (int i = 0; i < n; i++) {
            place = editor.placeBehind(place, from + i);
            disk.putOne(place, seed + i * i + (i >> 8));
        }
        return from + n;
    }

    public int cut(int k, int size) throws IllegalStateException, IndexOutOfBoundsException, IllegalArgumentException {
        wantSoundTable(look());
        int item = fileHere(k);
        if (size < 0 || size > tree.sizeOf(item)) {
            throw new IllegalArgumentException("no such size");
        }
        changed();
        return editor.shorten(item, size);
    }

    public void remove(int k) throws IllegalStateException, IndexOutOfBoundsException, IllegalArgumentException {
        wantSoundTable(look());
        int item = itemHere(k);
        if (tree.countIn(item) > 0) {
            throw new IllegalArgumentException("a directory with items");
        }
        changed();
        editor.dropItem(here, item);
    }

    public void stamp(int k, int what, int day, int time) throws IllegalStateException, IndexOutOfBoundsException, IllegalArgumentException {
        wantSoundTable(look());
        int item = itemHere(k);
        int at = tree.spotOf(item);
        if (!Days.wouldFit(disk, at, what, day, time)) {
            throw new IllegalArgumentException("no such day or time");
        }
        changed();
        editor.putStamp(at, what, day, time);
    }

    public int plan(int P, int what) {
        if (what < 0 || what > 6 || look() != TABLE_VOLUME) {
            return NONE;
        }
        int refusal = planner.refusal(P, lastFault);
        if (what == 0) {
            return refusal;
        }
        return refusal == 0 ? planner.number(what) : NONE;
    }

    public int target(int P, int cluster) {
        if (look() != TABLE_VOLUME || planner.refusal(P, lastFault) != 0) {
            return NONE;
        }
        return table.hasCluster(cluster) ? table.goalOf(cluster) : NONE;
    }

    public boolean fail(int ask, int writes) {
        if (ask != FINISH && ask != BACK || writes < 0 || fails >= MOST_FAILS) {
            return false;
        }
        failAsks[fails] = ask;
        failWrites[fails] = writes;
        fails++;
        return true;
    }

    public int run(int ask, int P) throws IllegalStateException, IllegalArgumentException {
        int told = fails;
        fails = 0;
        int kind = look();
        if (kind == NO_VOLUME) {
            throw new IllegalStateException("no volume");
        }
        if (ask != FINISH && ask != BACK) {
            throw new IllegalArgumentException("neither finish nor back");
        }
        int size = kind == INODE_VOLUME ? inodes.groupSize() : P;
        for (int i = 0; i < told && i < MOST_FAILS; i++) {
            disk.supply(failWrites[i]);
            turner.turn(failAsks[i], size);
        }
        disk.supply(Disk.ENDLESS);
        int refusal = turner.turn(ask, size);
        hasRun = true;
        changed();
        here = 0;
        return refusal;
    }

    private void changed() {
        stale = true;
    }

    /** Which volume there is; a table volume's tree is read anew if the disk has changed. */
    private int look() {
        if (inodes.isThere()) {
            return INODE_VOLUME;
        }
        if (stale) {
            lastFault = reader.scan(false);
            stale = false;
        }
        return lastFault == 1 ? NO_VOLUME : TABLE_VOLUME;
    }

    /** Whether the tree to read is that of an inode volume. */
    private boolean readsInodes(int kind) {
        if (kind != INODE_VOLUME && lastFault != 0) {
            throw new IllegalStateException("no tree");
        }
        return kind == INODE_VOLUME;
    }

    private void wantSoundTable(int kind) {
        if (kind != TABLE_VOLUME || lastFault != 0) {
            throw new IllegalStateException("no sound table volume");
        }
    }

    private int itemHere(int k) {
        if (k < 0 || k >= tree.countIn(here)) {
            throw new IndexOutOfBoundsException("no such item");
        }
        return tree.kid(here, k);
    }

    private int entryHere(int k) {
        if (k < 0 || k >= inodes.countIn(here)) {
            throw new IndexOutOfBoundsException("no such item");
        }
        return inodes.findEntry(here, k + 2);
    }

    private int fileHere(int k) {
        int item = itemHere(k);
        if (tree.isDirectory(item)) {
            throw new IllegalArgumentException("a directory");
        }
        return item;
    }

    /** Makes room behind a file's bytes: its size before. */
    private int lengthen(int item, int n) {
        int from = tree.sizeOf(item);
        if (!editor.canHold(item, n)) {
            throw new UnsupportedOperationException("no room");
        }
        changed();
        editor.lengthen(item, n);
        return from;
    }

    private long tellItem(int item, int what) {
        switch (what) {
            case 0:
                return tree.isDirectory(item) ? 1 : 0;
            case 1:
                return tree.isReadOnly(item) ? 1 : 0;
            case 5:
                return tree.sizeOf(item);
            default:
                return Days.seconds(disk, tree.spotOf(item), what) & FOUR_BYTES;
        }
    }

    /** The sectors' bytes, and the power behind the writes of a run. */
    private static final class Disk {
        static final int ENDLESS = -1;

        final int sectors;
        private final byte[] bytes;
        private int power = ENDLESS;

        Disk(int sectors) {
            this.sectors = sectors;
            this.bytes = new byte[sectors * SECTOR];
        }

        boolean has(int sector, int at) {
            return sector >= 0 && sector < sectors && at >= 0 && at < SECTOR;
        }

        int one(int at) {
            return at >= 0 && at < bytes.length ? bytes[at] & 255 : 0;
        }

        int two(int at) {
            if (at < 0 || at > bytes.length - 2) {
                return 0;
            }
            return bytes[at] & 255 | (bytes[at + 1] & 255) << 8;
        }

        int four(int at) {
            if (at < 0 || at > bytes.length - 4) {
                return 0;
            }
            return bytes[at] & 255 | (bytes[at + 1] & 255) << 8
                    | (bytes[at + 2] & 255) << 16 | (bytes[at + 3] & 255) << 24;
        }

        void putOne(int at, int value) {
            if (at >= 0 && at < bytes.length) {
                bytes[at] = (byte) value;
            }
        }

        void putTwo(int at, int value) {
            if (at >= 0 && at <= bytes.length - 2) {
                bytes[at] = (byte) value;
                bytes[at + 1] = (byte) (value >> 8);
            }
        }

        void putFour(int at, int value) {
            if (at >= 0 && at <= bytes.length - 4) {
                bytes[at] = (byte) value;
                bytes[at + 1] = (byte) (value >> 8);
                bytes[at + 2] = (byte) (value >> 16);
                bytes[at + 3] = (byte) (value >> 24);
            }
        }

        void zero(int from, int count) {
            if (from >= 0 && count >= 0 && count <= bytes.length && from <= bytes.length - count) {
                Arrays.fill(bytes, from, from + count, (byte) 0);
            }
        }

        /** Power for so many writes of a run, or ENDLESS. */
        void supply(int writes) {
            power = writes;
        }

        boolean isOn() {
            return power != 0;
        }

        /** A run's write of one sector, which does not come about without power. */
        void store(int sector, byte[] from, int at) {
            if (power == 0 || !has(sector, 0) || at < 0 || at > from.length - SECTOR) {
                return;
            }
            if (power > 0) {
                power--;
            }
            System.arraycopy(from, at, bytes, sector * SECTOR, SECTOR);
        }

        void load(int sector, byte[] to, int at) {
            if (has(sector, 0) && at >= 0 && at <= to.length - SECTOR) {
                System.arraycopy(bytes, sector * SECTOR, to, at, SECTOR);
            }
        }
    }

    /** The tape, and the bytes that are ready to come to it. */
    private static final class Tape {
        private static final int MOST = 4096;
        private static final int READY = 20;

        private final byte[] bytes = new byte[MOST];
        private final byte[] ready = new byte[READY];
        private int used = 0;

        void prepare(int at, int value) {
            for (int i = 0; i < 4 && at >= 0 && at + i < READY; i++) {
                ready[at + i] = (byte) (value >> 24 - 8 * i);
            }
        }

        int append(int n) {
            if (n < 0 || n > READY || used + n > MOST) {
                return NONE;
            }
            System.arraycopy(ready, 0, bytes, used, n);
            Arrays.fill(ready, (byte) 0);
            used += n;
            return used;
        }

        /** The tape becomes empty: how many bytes it had, which can still be read by this call. */
        int useUp() {
            int had = used;
            used = 0;
            return had;
        }

        int one(int i) {
            return i >= 0 && i < MOST ? bytes[i] & 255 : 0;
        }

        boolean isLabel(int n) {
            if (n > SHORT_NAME || n > 0 && one(0) == BLANK) {
                return false;
            }
            for (int i = 0; i < n; i++) {
                if (one(i) != BLANK && !Words.mayBeShort(one(i))) {
                    return false;
                }
            }
            return true;
        }
    }

    /** What names are made of. */
    private static final class Words {
        static boolean mayBeShort(int u) {
            return u >= 'A' && u <= 'Z' || u >= '0' && u <= '9' || u >= '#' && u <= ')'
                    || u >= '^' && u <= '`' || u == '!' || u == '-' || u == '@'
                    || u == '{' || u == '}' || u == '~';
        }

        private static boolean mayBeUnit(int u) {
            boolean banned = u == '"' || u == '*' || u == '/' || u == ':' || u == '<' || u == '>'
                    || u == '?' || u == '\\' || u == '|' || u == 127;
            return u >= BLANK && u <= 65533 && !banned && (u < 55296 || u > 57343);
        }

        /** "." and ".." are none, as their last unit is a point. */
        static boolean isName(int[] units, int n) {
            if (n < 1 || n > MOST_UNITS || n > units.length) {
                return false;
            }
            for (int i = 0; i < n; i++) {
                if (!mayBeUnit(units[i])) {
                    return false;
                }
            }
            return units[n - 1] != BLANK && units[n - 1] != POINT;
        }

        static boolean isShortName(Disk disk, int at, boolean label) {
            if (disk.one(at) == BLANK) {
                return false;
            }
            boolean ended = false;
            for (int i = 0; i < SHORT_NAME; i++) {
                int b = disk.one(at + i);
                ended = ended && i != 8;
                if (b == BLANK) {
                    ended = !label;
                } else if (ended || !mayBeShort(b)) {
                    return false;
                }
            }
            return true;
        }

        static int sum(Disk disk, int at) {
            int sum = 0;
            for (int i = 0; i < SHORT_NAME; i++) {
                sum = (sum & 1) * 128 + (sum >> 1) + disk.one(at + i) & 255;
            }
            return sum;
        }

        static int capital(int u) {
            return u >= 'a' && u <= 'z' ? u - 32 : u;
        }

        /** How many bytes a unit has in a name of an inode volume. */
        static int width(int u) {
            return u < 128 ? 1 : u < 2048 ? 2 : 3;
        }

        static int byteOf(int u, int i) {
            int width = width(u);
            int bits = u >> 6 * (width - 1 - i);
            if (i > 0) {
                return 128 | bits & 63;
            }
            return width == 1 ? u : width == 2 ? 192 | bits : 224 | bits;
        }
    }

    /** Days and times as they stand in an entry. */
    private static final class Days {
        private static final int[] BEFORE_MONTH = {0, 31, 59, 90, 120, 151, 181, 212, 243, 273, 304, 334, 365};
        /** Leap days from the year 1 to 1969. */
        private static final int LEAPS_BEFORE_1970 = 477;

        static final int FIRST = 33;

        private static boolean isDay(int day) {
            int month = day >> 5 & 15;
            if (day < 0 || day > 65535 || month < 1 || month > 12) {
                return false;
            }
            int year = 1980 + (day >> 9);
            boolean leap = year % 4 == 0 && (year % 100 != 0 || year % 400 == 0);
            int last = BEFORE_MONTH[month] - BEFORE_MONTH[month - 1] + (leap && month == 2 ? 1 : 0);
            return (day & 31) >= 1 && (day & 31) <= last;
        }

        private static boolean isTime(int time) {
            return time >= 0 && time >> 11 < 24 && (time >> 5 & 63) < 60 && (time & 31) < 30;
        }

        private static boolean madeFits(int day, int time, int hundredths) {
            if (day == 0) {
                return time == 0 && hundredths == 0;
            }
            return isDay(day) && isTime(time) && hundredths >= 0 && hundredths < 200;
        }

        private static boolean readFits(int day) {
            return day == 0 || isDay(day);
        }

        /** Whether the days and times of the entry at a place are as told. */
        static boolean fit(Disk disk, int at) {
            return madeFits(disk.two(at + 16), disk.two(at + 14), disk.one(at + 13))
                    && readFits(disk.two(at + 18))
                    && isDay(disk.two(at + 24)) && isTime(disk.two(at + 22));
        }

        /** Whether an entry would be as told behind a stamp. */
        static boolean wouldFit(Disk disk, int at, int what, int day, int time) {
            switch (what) {
                case 0:
                    return madeFits(day, time, disk.one(at + 13));
                case 1:
                    return readFits(day) && time == 0;
                case 2:
                    return isDay(day) && isTime(time);
                case 3:
                    return madeFits(disk.two(at + 16), disk.two(at + 14), time);
                case 4:
                    return time == 0 || time == 1;
                default:
                    return false;
            }
        }

        static long seconds(Disk disk, int at, int what) {
            int day = what == ABOUT_READ ? disk.two(at + 18) : disk.two(at + 16);
            int time = what == ABOUT_READ ? 0 : disk.two(at + 14);
            int more = what == ABOUT_READ ? 0 : disk.one(at + 13) / 100;
            if (what == ABOUT_WRITTEN || day == 0) {
                day = disk.two(at + 24);
                time = disk.two(at + 22);
                more = 0;
            }
            return daysFrom1970(day) * 86400L + (time >> 11) * 3600 + (time >> 5 & 63) * 60 + (time & 31) * 2 + more;
        }

        private static int daysFrom1970(int day) {
            int year = 1980 + (day >> 9);
            int month = day >> 5 & 15;
            if (month < 1 || month > 12) {
                return 0;
            }
            int februaries = month > 2 ? year : year - 1;
            int leaps = februaries / 4 - februaries / 100 + februaries / 400 - LEAPS_BEFORE_1970;
            return (year - 1970) * 365 + leaps + BEFORE_MONTH[month - 1] + (day & 31) - 1;
        }
    }

    /** Sector 0 and the tables: which clusters there are, and how they are chained. */
    private static final class Table {
        private final Disk disk;
        /** Sectors of a cluster; like all these numbers as told at any time, so never 0. */
        int cluster = 2;
        private int before = 8;
        private int copies = 1;
        private int length = 1;
        int root = 2;
        /** The sector where clusters begin. */
        int start = 10;
        int clusters = 4;
        /** The entries of the first table, lowest 28 bits. */
        private final int[] next;
        /** Where a cluster moves by the plan, 0 if it stays. */
        private final int[] goal;

        Table(Disk disk) {
            this.disk = disk;
            this.next = new int[disk.sectors / 2 + 2];
            this.goal = new int[disk.sectors / 2 + 2];
        }

        private static boolean numbersFit(int cluster, int before, int copies, int length) {
            return (cluster == 2 || cluster == 4 || cluster == 8) && before >= 8 && before <= 64
                    && (copies == 1 || copies == 2) && length >= 1 && length <= 32;
        }

        private int clustersWith(int cluster, int before, int copies, int length) {
            return cluster < 1 ? 0 : (disk.sectors - before - copies * length) / cluster;
        }

        private static boolean isEnough(int clusters, int length) {
            return clusters >= 4 && 128 * length >= clusters + 2;
        }

        /** The least sectors of a table for a new volume; NONE if there is none such. */
        int leastLength(int cluster, int before, int copies) {
            for (int length = 1; length <= 32; length++) {
                if (numbersFit(cluster, before, copies, length)
                        && isEnough(clustersWith(cluster, before, copies, length), length)) {
                    return length;
                }
            }
            return NONE;
        }

        void writeFirstSectors(int cluster, int before, int copies, int length, int id) {
            for (int at = 0; at <= 6 * SECTOR; at += 6 * SECTOR) {
                for (int i = 3; i < 11; i++) {
                    disk.putOne(at + i, BLANK);
                }
                disk.putTwo(at + 11, SECTOR);
                disk.putOne(at + 13, cluster);
                disk.putTwo(at + 14, before);
                disk.putOne(at + 16, copies);
                disk.putFour(at + 32, disk.sectors);
                disk.putFour(at + 36, length);
                disk.putFour(at + 44, 2);
                disk.putTwo(at + 48, 1);
                disk.putTwo(at + 50, 6);
                disk.putFour(at + 67, id);
                disk.putTwo(at + 510, 43605);
            }
            disk.putFour(SECTOR, 1096897106);
            disk.putFour(SECTOR + 484, 1631679090);
            disk.putFour(SECTOR + 488, -1);
            disk.putFour(SECTOR + 492, -1);
            disk.putFour(SECTOR + 508, 0xAA550000);
        }

        void startTables() {
            link(0, LEAST_END);
            link(1, CHAIN_END);
            link(root, CHAIN_END);
        }

        private boolean constantsFit() {
            return disk.two(11) == SECTOR && disk.two(17) == 0 && disk.two(19) == 0
                    && disk.two(22) == 0 && disk.four(32) == disk.sectors && disk.two(48) == 1
                    && disk.two(50) == 6 && disk.two(510) == 43605;
        }

        /** Takes over what sector 0 and the first table say; false if sector 0 is not as told. */
        boolean read() {
            int c = disk.one(13);
            int v = disk.two(14);
            int y = disk.one(16);
            int z = disk.four(36);
            int r = disk.four(44);
            if (!constantsFit() || !numbersFit(c, v, y, z)) {
                return false;
            }
            int k = clustersWith(c, v, y, z);
            if (!isEnough(k, z) || r < 2 || r > k + 1) {
                return false;
            }
            cluster = c;
            before = v;
            copies = y;
            length = z;
            root = r;
            start = v + y * z;
            clusters = k;
            for (int i = 0; i < next.length; i++) {
                next[i] = i < k + 2 ? disk.four(v * SECTOR + 4 * i) & LOW_BITS : 0;
            }
            return true;
        }

        /** Whether the entries of the tables are as told. */
        boolean entriesFit() {
            if (next[0] != LEAST_END || next[1] != CHAIN_END) {
                return false;
            }
            int other = (copies - 1) * length * SECTOR;
            for (int c = 0; c < clusters + 2 && c < next.length; c++) {
                int at = before * SECTOR + 4 * c;
                boolean wrong = next[c] == 1 || next[c] > clusters + 1 && next[c] < LEAST_END;
                if (wrong || disk.four(at) != disk.four(at + other)) {
                    return false;
                }
            }
            return true;
        }

        /** A number behind that of any cluster there may be. */
        int behind() {
            return next.length;
        }

        boolean hasCluster(int c) {
            return c >= 2 && c < clusters + 2 && c < next.length;
        }

        /** A cluster's entry, 0 also for what is no cluster. */
        int nextOf(int c) {
            return c >= 2 && c < clusters + 2 && c < next.length ? next[c] : 0;
        }

        void setGoal(int c, int to) {
            if (c >= 0 && c < goal.length) {
                goal[c] = to;
            }
        }

        int goalOf(int c) {
            return c >= 0 && c < goal.length ? goal[c] : 0;
        }

        boolean isFree(int c) {
            return c >= 2 && c < clusters + 2 && c < next.length && next[c] == 0;
        }

        /** Whether a sector is shown: none of a free cluster or behind the last one. */
        boolean shows(int sector) {
            if (sector < start || cluster < 1) {
                return true;
            }
            return nextOf((sector - start) / cluster + 2) != 0;
        }

        int clusterBytes() {
            return cluster * SECTOR;
        }

        int slotsOfCluster() {
            return cluster * SLOTS_OF_SECTOR;
        }

        /** Where slot s of the directory with these clusters stands. */
        int slotPlace(int[] road, int s) {
            int each = slotsOfCluster();
            if (each < 1 || s < 0 || s / each >= road.length) {
                return NONE;
            }
            return place(road[s / each]) + s % each * SLOT;
        }

        /** The first byte of a cluster. */
        int place(int c) {
            return (start + (c - 2) * cluster) * SECTOR;
        }

        /** A sound chain's clusters come to a row: how many. */
        int road(int first, int[] into) {
            int c = first;
            int n = 0;
            while (n < into.length && hasCluster(c)) {
                into[n] = c;
                n++;
                c = next[c];
            }
            return n;
        }

        /** Changes an entry in all tables, but for its highest four bits. */
        void link(int c, int value) {
            if (c < 0 || c >= clusters + 2 || c >= next.length) {
                return;
            }
            next[c] = value;
            for (int i = 0; i < copies; i++) {
                int at = (before + i * length) * SECTOR + 4 * c;
                disk.putFour(at, disk.four(at) & ~LOW_BITS | value);
            }
        }

        int countFree() {
            int n = 0;
            for (int c = 2; c < clusters + 2; c++) {
                n += isFree(c) ? 1 : 0;
            }
            return n;
        }

        /** The lowest free cluster becomes a chain's end, full of 0; 0 if there is none. */
        int takeFree() {
            for (int c = 2; c < clusters + 2; c++) {
                if (isFree(c)) {
                    link(c, CHAIN_END);
                    disk.zero(place(c), clusterBytes());
                    return c;
                }
            }
            return 0;
        }
    }

    /** The items of a table volume, in the tree's order, so that those of a directory stand together. */
    private static final class Tree {
        int count = 0;
        /** Where the label's entry stands, or NONE. */
        int label = NONE;
        private int[] parent = new int[64];
        private int[] first = new int[64];
        private int[] size = new int[64];
        private int[] bits = new int[64];
        /** Where on the disk an item's entry stands, and its number among the directory's slots. */
        private int[] spot = new int[64];
        private int[] slot = new int[64];
        private int[] parts = new int[64];
        private int[] kids = new int[64];
        private int[] kidCount = new int[64];
        private int[] nameAt = new int[64];
        private int[] nameLength = new int[64];
        private int[] nameBytes = new int[64];
        /** Where an item's blocks begin in the row of those for what is built; how many are no indirect ones. */
        private int[] built = new int[64];
        private int[] builtBlocks = new int[64];
        private int[] pool = new int[1024];
        private int pooled = 0;

        void startWith(int root) {
            count = 0;
            pooled = 0;
            label = NONE;
            place(addItem(0, DIRECTORY), root, 0, 0, 0);
        }

        /** A new item at the end, of which the caller tells the rest: its number. */
        int addItem(int directory, int attributes) {
            if (count >= parent.length) {
                widen(2 * count);
            }
            int i = count;
            count++;
            parent[i] = directory;
            bits[i] = attributes;
            size[i] = 0;
            kids[i] = 0;
            kidCount[i] = 0;
            built[i] = 0;
            builtBlocks[i] = 0;
            nameAt[i] = pooled;
            nameLength[i] = 0;
            nameBytes[i] = 0;
            return i;
        }

        /** Tells where an item's chain begins, and where its entry and its parts stand. */
        void place(int i, int firstCluster, int entry, int entrySlot, int partCount) {
            if (has(i)) {
                first[i] = firstCluster;
                spot[i] = entry;
                slot[i] = entrySlot;
                parts[i] = partCount;
            }
        }

        void setSize(int i, int bytes) {
            if (has(i)) {
                size[i] = bytes;
            }
        }

        void setBuilt(int i, int room, int blocks) {
            if (has(i)) {
                built[i] = room;
                builtBlocks[i] = blocks;
            }
        }

        private void widen(int n) {
            parent = Arrays.copyOf(parent, n);
            first = Arrays.copyOf(first, n);
            size = Arrays.copyOf(size, n);
            bits = Arrays.copyOf(bits, n);
            spot = Arrays.copyOf(spot, n);
            slot = Arrays.copyOf(slot, n);
            parts = Arrays.copyOf(parts, n);
            kids = Arrays.copyOf(kids, n);
            kidCount = Arrays.copyOf(kidCount, n);
            nameAt = Arrays.copyOf(nameAt, n);
            nameLength = Arrays.copyOf(nameLength, n);
            nameBytes = Arrays.copyOf(nameBytes, n);
            built = Arrays.copyOf(built, n);
            builtBlocks = Arrays.copyOf(builtBlocks, n);
        }

        void nameLast(int[] units, int n) {
            int i = count - 1;
            if (i < 0 || n < 0 || n > units.length) {
                return;
            }
            if (pooled + n > pool.length) {
                pool = Arrays.copyOf(pool, 2 * (pooled + n));
            }
            nameAt[i] = pooled;
            nameLength[i] = n;
            int bytes = 0;
            for (int j = 0; j < n; j++) {
                pool[pooled + j] = units[j];
                bytes += Words.width(units[j]);
            }
            pooled += n;
            nameBytes[i] = bytes;
        }

        boolean has(int i) {
            return i >= 0 && i < count;
        }

        boolean isDirectory(int i) {
            return has(i) && (bits[i] & DIRECTORY) != 0;
        }

        int countIn(int i) {
            return has(i) ? kidCount[i] : 0;
        }

        /** The number of item k in a directory. */
        int kid(int directory, int k) {
            return has(directory) ? kids[directory] + k : 0;
        }

        int parentOf(int i) {
            return has(i) ? parent[i] : 0;
        }

        boolean isReadOnly(int i) {
            return has(i) && (bits[i] & READ_ONLY) != 0;
        }

        int partsOf(int i) {
            return has(i) ? parts[i] : 0;
        }

        int builtOf(int i) {
            return has(i) ? built[i] : 0;
        }

        int builtBlocksOf(int i) {
            return has(i) ? builtBlocks[i] : 0;
        }

        int slotOf(int i) {
            return has(i) ? slot[i] : 0;
        }

        int spotOf(int i) {
            return has(i) ? spot[i] : 0;
        }

        int sizeOf(int i) {
            return has(i) ? size[i] : 0;
        }

        int firstOf(int i) {
            return has(i) ? first[i] : 0;
        }

        void beginKids(int directory) {
            if (has(directory)) {
                kids[directory] = count;
            }
        }

        void endKids(int directory) {
            if (has(directory)) {
                kidCount[directory] = count - kids[directory];
            }
        }

        /** Whether the name of an item is alike n units (capitals and small ones being the same). */
        boolean isNamed(int i, int[] units, int n) {
            if (!has(i) || nameLength[i] != n || n > units.length) {
                return false;
            }
            int from = nameAt[i];
            for (int j = 0; j < n; j++) {
                if (pool[from + j] != units[j] && Words.capital(pool[from + j]) != Words.capital(units[j])) {
                    return false;
                }
            }
            return true;
        }

        boolean isNamedAsRecord(int i) {
            if (!has(i) || nameLength[i] != RECORD_NAME.length()) {
                return false;
            }
            for (int j = 0; j < RECORD_NAME.length(); j++) {
                if (Words.capital(pool[nameAt[i] + j]) != Words.capital(RECORD_NAME.charAt(j))) {
                    return false;
                }
            }
            return true;
        }

        /** How many bytes the name has in an inode volume. */
        int nameSize(int i) {
            return has(i) ? nameBytes[i] : 0;
        }

        int nameByte(int i, int at) {
            if (!has(i) || at < 0 || at >= nameBytes[i]) {
                return NONE;
            }
            int left = at;
            for (int j = 0; j < nameLength[i]; j++) {
                int unit = pool[nameAt[i] + j];
                int width = Words.width(unit);
                if (left < width) {
                    return Words.byteOf(unit, left);
                }
                left -= width;
            }
            return NONE;
        }
    }

    /** Reads a table volume's tree from the disk, or finds its fault. */
    private static final class Reader {
        private final Disk disk;
        private final Table table;
        private final Tree tree;
        private final boolean[] taken;
        private final int[] road;
        private final int[] fileRoad;
        private final int[] units = new int[MOST_PARTS * PART_UNITS];
        /** Of the parts that stand before the slot: how many, how many are still to come, their sum. */
        private int parts = 0;
        private int toCome = 0;
        private int sum = 0;

        Reader(Disk disk, Table table, Tree tree) {
            this.disk = disk;
            this.table = table;
            this.tree = tree;
            this.taken = new boolean[table.behind()];
            this.road = new int[table.behind()];
            this.fileRoad = new int[table.behind()];
        }

        /** The fault, 0 if there is none; moved tells whether clusters that move stand at their goals. */
        int scan(boolean moved) {
            if (!table.read()) {
                return 1;
            }
            if (!table.entriesFit()) {
                return 2;
            }
            for (int c = 0; c < taken.length; c++) {
                taken[c] = false;
            }
            tree.startWith(table.root);
            for (int d = 0; d < MOST_ITEMS && d < tree.count; d++) {
                int fault = tree.isDirectory(d) ? readDirectory(d, moved) : 0;
                if (fault != 0) {
                    return fault;
                }
            }
            return hasStrays() ? 6 : 0;
        }

        private boolean hasStrays() {
            for (int c = 2; c < table.clusters + 2 && c < taken.length; c++) {
                if (!table.isFree(c) && !taken[c]) {
                    return true;
                }
            }
            return false;
        }

        /** A chain's clusters come to a row: how many; NONE if the chain is not as told. */
        private int follow(int first, int[] into) {
            int c = first;
            for (int n = 0; n < into.length; n++) {
                if (table.nextOf(c) == 0 || c >= taken.length || taken[c]) {
                    return NONE;
                }
                taken[c] = true;
                into[n] = c;
                c = table.nextOf(c);
                if (c >= LEAST_END) {
                    return n + 1;
                }
            }
            return NONE;
        }

        private int readDirectory(int d, boolean moved) {
            int length = follow(tree.firstOf(d), road);
            if (length == NONE) {
                return 3;
            }
            for (int i = 0; moved && i < length; i++) {
                road[i] = table.goalOf(road[i]) == 0 ? road[i] : table.goalOf(road[i]);
            }
            tree.beginKids(d);
            parts = 0;
            int all = length * table.slotsOfCluster();
            int s = 0;
            for (; s < all; s++) {
                int at = table.slotPlace(road, s);
                int fault = 0;
                if (disk.one(at) == 0) {
                    break;
                } else if (d != 0 && s < 2) {
                    fault = isDots(d, s + 1, at) ? 0 : 4;
                } else if (disk.one(at) == EMPTY) {
                    fault = parts == 0 ? 0 : 4;
                } else if ((disk.one(at + 11) & 63) == PART) {
                    fault = readPart(at) ? 0 : 4;
                } else {
                    fault = readEntry(d, s, at);
                }
                if (fault != 0) {
                    return fault;
                }
            }
            tree.endKids(d);
            return parts != 0 || d != 0 && s < 2 ? 4 : 0;
        }

        private boolean isDots(int d, int points, int at) {
            for (int i = 0; i < SHORT_NAME; i++) {
                if (disk.one(at + i) != (i < points ? POINT : BLANK)) {
                    return false;
                }
            }
            int above = tree.parentOf(d);
            int due = points == 1 ? tree.firstOf(d) : above == 0 ? 0 : tree.firstOf(above);
            return disk.one(at + 11) == DIRECTORY && firstCluster(at) == due;
        }

        private int firstCluster(int at) {
            return disk.two(at + 20) << 16 | disk.two(at + 26);
        }

        private boolean readPart(int at) {
            int number = disk.one(at);
            if (parts == 0) {
                number -= 64;
                if (number < 1 || number > MOST_PARTS) {
                    return false;
                }
                parts = number;
                toCome = number;
                sum = disk.one(at + 13);
            }
            if (number != toCome || disk.one(at + 12) != 0 || disk.two(at + 26) != 0 || disk.one(at + 13) != sum) {
                return false;
            }
            toCome--;
            for (int i = 0; i < PART_UNITS; i++) {
                units[toCome * PART_UNITS + i] = disk.two(at + unitPlace(i));
            }
            return true;
        }

        private int readEntry(int d, int s, int at) {
            int bits = disk.one(at + 11);
            boolean label = (bits & LABEL) != 0;
            if (!bitsFit(at, bits) || !Words.isShortName(disk, at, label) || !Days.fit(disk, at)) {
                return 4;
            }
            if (label) {
                boolean wrong = parts != 0 || d != 0 || tree.label != NONE;
                tree.label = at;
                return wrong ? 4 : 0;
            }
            int n = parts == 0 ? showShortName(at) : closeParts(at);
            if (n == 0) {
                return 4;
            }
            boolean twin = hasTwin(d, at, n);
            int i = tree.addItem(d, bits);
            tree.nameLast(units, n);
            tree.place(i, firstCluster(at), at, s, parts);
            parts = 0;
            if (twin) {
                return 5;
            }
            return followFile(i, disk.four(at + 28) & FOUR_BYTES) ? 0 : 3;
        }

        private boolean bitsFit(int at, int bits) {
            boolean label = (bits & LABEL) != 0;
            boolean directory = (bits & DIRECTORY) != 0;
            if (bits > 63 || label && directory) {
                return false;
            }
            if (label && firstCluster(at) != 0) {
                return false;
            }
            return !label && !directory || disk.four(at + 28) == 0;
        }

        private int showShortName(int at) {
            int n = 0;
            for (int i = 0; i < SHORT_NAME; i++) {
                int b = disk.one(at + i);
                if (i == 8 && b != BLANK) {
                    units[n] = POINT;
                    n++;
                }
                if (b != BLANK) {
                    units[n] = b;
                    n++;
                }
            }
            return n;
        }

        /** How many units the name has that the parts say; 0 if they are not as told. */
        private int closeParts(int at) {
            int room = parts * PART_UNITS;
            if (toCome != 0 || sum != Words.sum(disk, at) || room > units.length) {
                return 0;
            }
            int n = 0;
            while (n < room && units[n] != 0) {
                n++;
            }
            for (int i = n + 1; i < room; i++) {
                if (units[i] != 65535) {
                    return 0;
                }
            }
            return n > room - PART_UNITS && Words.isName(units, n) ? n : 0;
        }

        private boolean hasTwin(int d, int at, int n) {
            for (int j = tree.kid(d, 0); j < tree.count; j++) {
                if (sameShortName(tree.spotOf(j), at) || tree.isNamed(j, units, n)) {
                    return true;
                }
            }
            return false;
        }

        private boolean sameShortName(int a, int b) {
            for (int i = 0; i < SHORT_NAME; i++) {
                if (disk.one(a + i) != disk.one(b + i)) {
                    return false;
                }
            }
            return true;
        }

        /** A directory's chain is looked at in its own turn. */
        private boolean followFile(int i, long size) {
            if (tree.isDirectory(i)) {
                return true;
            }
            if (size == 0) {
                return tree.firstOf(i) == 0;
            }
            long each = table.clusterBytes();
            if (each < 1 || follow(tree.firstOf(i), fileRoad) != (size + each - 1) / each) {
                return false;
            }
            tree.setSize(i, (int) size);
            return true;
        }

        /** Where in a part its unit i stands. */
        static int unitPlace(int i) {
            return i < 5 ? 1 + 2 * i : i < 11 ? 4 + 2 * i : 6 + 2 * i;
        }
    }

    /** Changes a sound table volume; its tree is that from before the change. */
    private static final class Editor {
        private final Disk disk;
        private final Table table;
        private final Tree tree;
        /** The clusters of the directory or file that is changed. */
        private final int[] road;
        private int roadLength = 0;
        private final int[] units = new int[MOST_UNITS];
        private int unitCount = 0;
        private final int[] shortName = new int[SHORT_NAME];
        /** Whether the name is a short name as shown. */
        private boolean plain = false;
        private int firstSlot = 0;
        private int slots = 0;
        /** The first slot that was not looked at. */
        private int unseen = 0;
        private int wanted = 0;

        Editor(Disk disk, Table table, Tree tree) {
            this.disk = disk;
            this.table = table;
            this.tree = tree;
            this.road = new int[table.behind()];
        }

        void writeLabel(Tape tape, int n) {
            int at = table.place(table.root);
            for (int i = 0; i < SHORT_NAME; i++) {
                disk.putOne(at + i, i < n ? tape.one(i) : BLANK);
            }
            disk.putOne(at + 11, LABEL);
            disk.putTwo(at + 24, Days.FIRST);
        }

        /** Takes the name from the tape; false if it is none. */
        boolean readName(Tape tape, int bytes) {
            if (bytes % 2 != 0 || bytes > 2 * MOST_UNITS) {
                return false;
            }
            unitCount = bytes / 2;
            for (int i = 0; i < unitCount && i < MOST_UNITS; i++) {
                units[i] = tape.one(2 * i) << 8 | tape.one(2 * i + 1);
            }
            if (!Words.isName(units, unitCount)) {
                return false;
            }
            plain = takePlainName();
            return true;
        }

        private int lastPoint() {
            for (int i = unitCount - 1; i > 0; i--) {
                if (units[i] == POINT) {
                    return i;
                }
            }
            return NONE;
        }

        /** If the name is a short name as shown, that comes to shortName. */
        private boolean takePlainName() {
            int point = lastPoint();
            int base = point == NONE ? unitCount : point;
            int behind = point == NONE ? 0 : unitCount - point - 1;
            if (base > 8 || behind > 3) {
                return false;
            }
            Arrays.fill(shortName, BLANK);
            for (int i = 0; i < unitCount; i++) {
                if (i != point && !Words.mayBeShort(units[i])) {
                    return false;
                }
                if (i != point) {
                    shortName[i < base ? i : 8 + i - base - 1] = units[i];
                }
            }
            return true;
        }

        /** Whether the name cannot come to a directory for those that are there. */
        boolean clashes(int directory) {
            for (int k = 0; k < tree.countIn(directory); k++) {
                int item = tree.kid(directory, k);
                if (tree.isNamed(item, units, unitCount) || plain && hasShortName(item)) {
                    return true;
                }
            }
            return false;
        }

        private boolean hasShortName(int item) {
            int at = tree.spotOf(item);
            for (int i = 0; i < SHORT_NAME; i++) {
                if (disk.one(at + i) != shortName[i]) {
                    return false;
                }
            }
            return true;
        }

        private boolean isShortNameTaken(int directory) {
            for (int k = 0; k < tree.countIn(directory); k++) {
                if (hasShortName(tree.kid(directory, k))) {
                    return true;
                }
            }
            return false;
        }

        /** What fits of the units from .. to - 1 comes to shortName: how many characters. */
        private int squeeze(int from, int to, int at, int most) {
            int n = 0;
            for (int i = from; i < to && n < most; i++) {
                int u = Words.capital(units[i]);
                if (u != BLANK && u != POINT) {
                    shortName[at + n] = Words.mayBeShort(u) ? u : '_';
                    n++;
                }
            }
            return n;
        }

        private void inventShortName(int directory) {
            int point = lastPoint();
            // One number more than there are items: one of them must be free.
            int tries = tree.countIn(directory) + 1;
            int digits = 1;
            int tens = 10;
            for (int k = 1; k <= tries; k++) {
                if (k == tens) {
                    digits++;
                    tens *= 10;
                }
                Arrays.fill(shortName, BLANK);
                int base = squeeze(0, point == NONE ? unitCount : point, 0, Math.max(7 - digits, 0));
                if (point != NONE) {
                    squeeze(point + 1, unitCount, 8, 3);
                }
                shortName[base] = '~';
                int left = k;
                for (int i = base + digits; i > base && i < 8; i--) {
                    shortName[i] = '0' + left % 10;
                    left /= 10;
                }
                if (!isShortNameTaken(directory)) {
                    return;
                }
            }
        }

        /** Looks for the slots of a new entry and its parts; false if there is no room. */
        boolean findSlots(int directory, boolean newDirectory) {
            slots = plain ? 1 : (unitCount + PART_UNITS - 1) / PART_UNITS + 1;
            roadLength = table.road(tree.firstOf(directory), road);
            int ofCluster = table.slotsOfCluster();
            int all = roadLength * ofCluster;
            unseen = all;
            wanted = 0;
            int inRow = 0;
            for (int s = 0; s < all; s++) {
                int b = disk.one(slotPlace(s));
                if (b == 0 && unseen == all) {
                    unseen = s;
                }
                inRow = b == EMPTY || s >= unseen ? inRow + 1 : 0;
                firstSlot = s + 1 - inRow;
                if (inRow == slots) {
                    break;
                }
            }
            if (inRow < slots) {
                wanted = ofCluster < 1 ? 0 : (slots - inRow + ofCluster - 1) / ofCluster;
            }
            return wanted + (newDirectory ? 1 : 0) <= table.countFree();
        }

        /** Where a slot of the directory on the road stands; NONE behind its last one. */
        private int slotPlace(int s) {
            return s < roadLength * table.slotsOfCluster() ? table.slotPlace(road, s) : NONE;
        }

        /** A new file or directory in the slots that were found: its number among the items. */
        int addItem(int directory, boolean newDirectory) {
            if (!plain) {
                inventShortName(directory);
            }
            int own = newDirectory ? table.takeFree() : 0;
            for (int i = 0; i < wanted; i++) {
                lengthenRoad();
            }
            putEntry(slotPlace(firstSlot + slots - 1), own, newDirectory);
            for (int i = 1; i < slots; i++) {
                putPart(slotPlace(firstSlot + slots - 1 - i), i);
            }
            if (unseen < firstSlot + slots) {
                disk.putOne(slotPlace(firstSlot + slots), 0);
            }
            if (newDirectory) {
                putDots(own, directory);
            }
            int number = 0;
            for (int k = 0; k < tree.countIn(directory); k++) {
                number += tree.slotOf(tree.kid(directory, k)) < firstSlot ? 1 : 0;
            }
            return number;
        }

        /** A cluster more at the end of the road. */
        private void lengthenRoad() {
            int c = table.takeFree();
            if (roadLength >= road.length) {
                return;
            }
            if (roadLength > 0) {
                table.link(road[roadLength - 1], c);
            }
            road[roadLength] = c;
            roadLength++;
        }

        private void putEntry(int at, int first, boolean newDirectory) {
            disk.zero(at, SLOT);
            for (int i = 0; i < SHORT_NAME; i++) {
                disk.putOne(at + i, shortName[i]);
            }
            disk.putOne(at + 11, newDirectory ? DIRECTORY | ARCHIVE : ARCHIVE);
            disk.putTwo(at + 24, Days.FIRST);
            putFirstCluster(at, first);
        }

        private void putFirstCluster(int at, int c) {
            disk.putTwo(at + 20, c >> 16);
            disk.putTwo(at + 26, c);
        }

        private void putPart(int at, int number) {
            disk.zero(at, SLOT);
            disk.putOne(at, number == slots - 1 ? number + 64 : number);
            disk.putOne(at + 11, PART);
            disk.putOne(at + 13, Words.sum(disk, slotPlace(firstSlot + slots - 1)));
            for (int i = 0; i < PART_UNITS; i++) {
                int j = (number - 1) * PART_UNITS + i;
                int unit = j < unitCount ? units[j] : j == unitCount ? 0 : 65535;
                disk.putTwo(at + Reader.unitPlace(i), unit);
            }
        }

        private void putDots(int own, int directory) {
            for (int points = 1; points <= 2; points++) {
                int at = table.place(own) + (points - 1) * SLOT;
                for (int i = 0; i < SHORT_NAME; i++) {
                    disk.putOne(at + i, i < points ? POINT : BLANK);
                }
                disk.putOne(at + 11, DIRECTORY);
                disk.putTwo(at + 24, Days.FIRST);
                putFirstCluster(at, points == 1 ? own : directory == 0 ? 0 : tree.firstOf(directory));
            }
        }

        private int clustersFor(int size) {
            int each = table.clusterBytes();
            return each < 1 ? 0 : (size + each - 1) / each;
        }

        boolean canHold(int item, int n) {
            int size = tree.sizeOf(item);
            return clustersFor(size + n) - clustersFor(size) <= table.countFree();
        }

        /** A file gets n bytes more, which the caller puts to their places on the road. */
        void lengthen(int item, int n) {
            int at = tree.spotOf(item);
            int size = tree.sizeOf(item);
            roadLength = table.road(tree.firstOf(item), road);
            int due = clustersFor(size + n);
            if (roadLength == 0 && due > 0) {
                lengthenRoad();
                putFirstCluster(at, road[0]);
            }
            for (int i = roadLength; i < due; i++) {
                lengthenRoad();
            }
            disk.putFour(at + 28, size + n);
        }

        /** Where a byte of the file on the road stands. */
        int placeOnRoad(int i) {
            int each = table.clusterBytes();
            if (each < 1 || i < 0 || i / each >= roadLength) {
                return NONE;
            }
            return table.place(road[i / each]) + i % each;
        }

        /** Where byte i of the file on the road stands, place being where the one before it does. */
        int placeBehind(int place, int i) {
            return i % SECTOR == 0 ? placeOnRoad(i) : place + 1;
        }

        /** Where a byte of a file stands. */
        int placeOf(int item, int i) {
            roadLength = table.road(tree.firstOf(item), road);
            return placeOnRoad(i);
        }

        /** A file keeps its first bytes: how many clusters became free. */
        int shorten(int item, int size) {
            int at = tree.spotOf(item);
            roadLength = table.road(tree.firstOf(item), road);
            int kept = clustersFor(size);
            if (kept < roadLength && kept > 0) {
                table.link(road[kept - 1], CHAIN_END);
            }
            if (kept == 0) {
                putFirstCluster(at, 0);
            }
            for (int i = kept; i < roadLength; i++) {
                table.link(road[i], 0);
            }
            disk.putFour(at + 28, size);
            return roadLength - kept;
        }

        void dropItem(int directory, int item) {
            roadLength = table.road(tree.firstOf(directory), road);
            int last = tree.slotOf(item);
            for (int s = last - tree.partsOf(item); s <= last; s++) {
                disk.putOne(slotPlace(s), EMPTY);
            }
            roadLength = table.road(tree.firstOf(item), road);
            for (int i = 0; i < roadLength; i++) {
                table.link(road[i], 0);
            }
        }

        void putStamp(int at, int what, int day, int time) {
            switch (what) {
                case 0:
                    disk.putTwo(at + 16, day);
                    disk.putTwo(at + 14, time);
                    break;
                case 1:
                    disk.putTwo(at + 18, day);
                    break;
                case 2:
                    disk.putTwo(at + 24, day);
                    disk.putTwo(at + 22, time);
                    break;
                case 3:
                    disk.putOne(at + 13, time);
                    break;
                default:
                    disk.putOne(at + 11, disk.one(at + 11) & ~READ_ONLY | time);
                    break;
            }
        }
    }

    /** Where everything comes to in an inode volume. */
    private static final class Plan {
        private final Disk disk;
        private final Table table;
        private final Tree tree;
        final int blocks;
        private final boolean[] fixed;
        private final boolean[] used;
        private final boolean[] aimedAt;
        /** The blocks for what is built, lowest first; owners have theirs in it one behind another. */
        private final int[] rooms;
        private int roomCount = 0;
        /** The blocks of one owner, without the indirect ones, as gather() found them. */
        final int[] list;
        int listed = 0;
        int size = 64;
        int groups = 1;
        int inodes = 8;
        private int moves = 0;
        private int built = 0;
        int free = 0;

        Plan(Disk disk, Table table, Tree tree) {
            this.disk = disk;
            this.table = table;
            this.tree = tree;
            this.blocks = disk.sectors / 2;
            this.fixed = new boolean[blocks];
            this.used = new boolean[blocks];
            this.aimedAt = new boolean[table.behind()];
            this.rooms = new int[blocks];
            this.list = new int[blocks + 4];
        }

        /** Plans for a table volume with that fault: the refusal, 0 if there is none. */
        int refusal(int groupSize, int fault) {
            if (fault != 0) {
                return fault;
            }
            if (table.start % 2 != 0) {
                return 11;
            }
            if (!divide(groupSize) || !layOut(leastInodes())) {
                return 12;
            }
            if (!namesFit()) {
                return 13;
            }
            if (!timesFit()) {
                return 14;
            }
            if (!aim() || !assign()) {
                return 15;
            }
            markUsed();
            return 0;
        }

        int number(int what) {
            switch (what) {
                case 1:
                    return groups;
                case 2:
                    return inodes;
                case 3:
                    return groups * (4 + inodes / 8);
                case 4:
                    return moves;
                case 5:
                    return built;
                default:
                    return free;
            }
        }

        /** Plans again what was planned when the mark was made; false if that cannot be. */
        boolean recall(int groupSize, int inodesOfGroup) {
            return table.read() && divide(groupSize) && layOut(inodesOfGroup) && aim();
        }

        private boolean divide(int groupSize) {
            if (groupSize != 64 && groupSize != 128 && groupSize != 256) {
                return false;
            }
            size = groupSize;
            groups = (blocks - 1 + size - 1) / groupSize;
            return true;
        }

        private int leastInodes() {
            int wanted = RECORD_INODE + tree.count - 1;
            int each = groups < 1 ? wanted : (wanted + groups - 1) / groups;
            return (each + 7) / 8 * 8;
        }

        int firstBlock(int group) {
            return 1 + group * size;
        }

        int blocksOf(int group) {
            return Math.min(size, blocks - firstBlock(group));
        }

        /** The block map's block; the inode map and the inodes stand behind it. */
        int mapBlock(int group) {
            return group == 0 ? table.start / 2 : firstBlock(group) + 2;
        }

        private boolean layOut(int inodesOfGroup) {
            if (inodesOfGroup < 8) {
                return false;
            }
            inodes = inodesOfGroup;
            int shelves = inodes / 8;
            for (int b = 0; b < blocks; b++) {
                fixed[b] = false;
            }
            for (int g = 0; g < groups; g++) {
                int least = g == 0 ? table.start / 2 + shelves + 9 : shelves + 12;
                if (blocksOf(g) < least || !fix(firstBlock(g), 2) || !fix(mapBlock(g), 2 + shelves)) {
                    return false;
                }
            }
            return true;
        }

        private boolean fix(int from, int count) {
            int begin = table.start / 2;
            int behind = begin + table.clusters * (table.cluster / 2);
            for (int b = from; b < from + count; b++) {
                boolean first = b == 1 || b == 2;
                if (!first && (b < begin || b >= behind) || b < 0 || b >= blocks) {
                    return false;
                }
                fixed[b] = true;
            }
            return true;
        }

        private boolean namesFit() {
            for (int i = 1; i < tree.count; i++) {
                boolean ofRoot = tree.parentOf(i) == 0;
                if (tree.nameSize(i) > 255 || ofRoot && tree.isNamedAsRecord(i)) {
                    return false;
                }
            }
            return true;
        }

        private boolean timesFit() {
            for (int i = 1; i < tree.count; i++) {
                for (int what = ABOUT_READ; what <= ABOUT_WRITTEN; what++) {
                    if (Days.seconds(disk, tree.spotOf(i), what) > MOST_SECONDS) {
                        return false;
                    }
                }
            }
            return true;
        }

        private int blockOfCluster(int c) {
            return table.start / 2 + (c - 2) * (table.cluster / 2);
        }

        private boolean hasFixed(int c) {
            int from = blockOfCluster(c);
            for (int b = from; b < from + table.cluster / 2; b++) {
                if (b >= 0 && b < blocks && fixed[b]) {
                    return true;
                }
            }
            return false;
        }

        /** Finds the goals of clusters that move, and the blocks that are left for building. */
        private boolean aim() {
            int behind = Math.min(table.clusters + 2, aimedAt.length);
            for (int c = 0; c < aimedAt.length; c++) {
                aimedAt[c] = false;
            }
            moves = 0;
            int to = 2;
            for (int c = 2; c < behind; c++) {
                boolean obstructs = !table.isFree(c) && hasFixed(c);
                while (obstructs && to < behind && (!table.isFree(to) || hasFixed(to))) {
                    to++;
                }
                if (obstructs && to >= behind) {
                    return false;
                }
                table.setGoal(c, obstructs ? to : 0);
                if (obstructs) {
                    aimedAt[to] = true;
                    moves++;
                    to++;
                }
            }
            findRooms(behind);
            return true;
        }

        private void findRooms(int behind) {
            roomCount = 0;
            for (int c = 2; c < behind; c++) {
                if (table.isFree(c) && !aimedAt[c]) {
                    addRooms(blockOfCluster(c));
                }
            }
        }

        private void addRooms(int from) {
            for (int b = from; b < from + table.cluster / 2 && b < blocks; b++) {
                if (!fixed[b] && roomCount < rooms.length) {
                    rooms[roomCount] = b;
                    roomCount++;
                }
            }
        }

        int room(int i) {
            return i >= 0 && i < roomCount ? rooms[i] : 0;
        }

        /** Gives what is built its blocks, in the document's order; false if there are too few. */
        boolean assign() {
            gather(RECORD);
            built = 3 + indirects(listed);
            for (int i = 0; i < tree.count; i++) {
                if (tree.isDirectory(i)) {
                    int own = blocksBuilt(i);
                    tree.setBuilt(i, built, own);
                    built += own + indirects(own);
                }
            }
            for (int i = 0; i < tree.count; i++) {
                if (!tree.isDirectory(i)) {
                    tree.setBuilt(i, built, 0);
                    built += indirects((tree.sizeOf(i) + BLOCK - 1) / BLOCK);
                }
            }
            return built <= roomCount;
        }

        static int indirects(int count) {
            if (count <= DIRECT) {
                return 0;
            }
            int behind = count - DIRECT - POINTERS;
            return behind <= 0 ? 1 : 2 + (behind + POINTERS - 1) / POINTERS;
        }

        /** How many entries a directory has in an inode volume. */
        int entriesOf(int directory) {
            return 2 + tree.countIn(directory) + (directory == 0 ? 1 : 0);
        }

        /** How many bytes the name of a directory's entry has. */
        int nameSize(int directory, int entry) {
            if (entry < 2) {
                return entry + 1;
            }
            if (entry - 2 < tree.countIn(directory)) {
                return tree.nameSize(tree.kid(directory, entry - 2));
            }
            return RECORD_NAME.length();
        }

        /** How long an entry is whose name has so many bytes. */
        static int entryLength(int nameSize) {
            return (8 + nameSize + 3) / 4 * 4;
        }

        private int blocksBuilt(int directory) {
            int n = 1;
            int at = 0;
            for (int e = 0; e < entriesOf(directory); e++) {
                int length = entryLength(nameSize(directory, e));
                if (at + length > BLOCK) {
                    n++;
                    at = 0;
                }
                at += length;
            }
            return n;
        }

        /** The blocks of the record, a directory or a file come to the list. */
        void gather(int owner) {
            listed = 0;
            int own = owner == RECORD ? 3 : tree.builtBlocksOf(owner);
            int from = owner == RECORD ? 0 : tree.builtOf(owner);
            for (int j = 0; j < own; j++) {
                addToList(room(from + j));
            }
            for (int b = 3; owner == RECORD && b < table.start / 2; b++) {
                addToList(b);
            }
            for (int i = 0; owner == RECORD && i < tree.count; i++) {
                if (tree.isDirectory(i)) {
                    listChain(tree.firstOf(i), list.length);
                }
            }
            if (owner != RECORD && !tree.isDirectory(owner)) {
                listChain(tree.firstOf(owner), (tree.sizeOf(owner) + BLOCK - 1) / BLOCK);
            }
        }

        /** The blocks of a chain, where its clusters stand in the inode volume. */
        private void listChain(int first, int most) {
            int half = table.cluster / 2;
            int begin = table.start / 2;
            int left = most;
            int c = first;
            for (int n = 0; n < table.clusters && table.nextOf(c) != 0; n++) {
                int stands = table.goalOf(c) != 0 ? table.goalOf(c) : c;
                for (int j = 0; j < half && left > 0; j++) {
                    addToList(begin + (stands - 2) * half + j);
                    left--;
                }
                c = table.nextOf(c);
            }
        }

        private void addToList(int block) {
            if (listed < list.length) {
                list[listed] = block;
                listed++;
            }
        }

        /** Where the indirect blocks of the owner that was gathered begin among the rooms. */
        int firstIndirect(int owner) {
            if (owner == RECORD) {
                return 3;
            }
            return tree.isDirectory(owner) ? tree.builtOf(owner) + listed : tree.builtOf(owner);
        }

        void markUsed() {
            for (int b = 0; b < blocks; b++) {
                used[b] = fixed[b];
            }
            for (int owner = RECORD; owner < tree.count; owner++) {
                gather(owner);
                for (int j = 0; j < listed; j++) {
                    mark(list[j]);
                }
                int indirects = indirects(listed);
                for (int j = 0; j < indirects; j++) {
                    mark(room(firstIndirect(owner) + j));
                }
            }
            free = 0;
            for (int g = 0; g < groups; g++) {
                free += freeBlocks(g);
            }
        }

        private void mark(int block) {
            if (block >= 0 && block < blocks) {
                used[block] = true;
            }
        }

        boolean isUsed(int block) {
            return block < 0 || block >= blocks || used[block];
        }

        int freeBlocks(int group) {
            int n = 0;
            for (int k = 0; k < blocksOf(group); k++) {
                n += isUsed(firstBlock(group) + k) ? 0 : 1;
            }
            return n;
        }

        int usedInodes() {
            return RECORD_INODE + tree.count - 1;
        }

        int freeInodes(int group) {
            int used = Math.max(usedInodes() - group * inodes, 0);
            return inodes - Math.min(used, inodes);
        }
    }

    /** The runs: every step of them is a write of one sector. */
    private static final class Turner {
        private final Disk disk;
        private final Table table;
        private final Tree tree;
        private final Reader reader;
        private final Plan plan;
        private final Inodes inodes;
        /** The block that is made ready to be stored. */
        private final byte[] block = new byte[BLOCK];

        Turner(Disk disk, Table table, Tree tree, Reader reader, Plan plan, Inodes inodes) {
            this.disk = disk;
            this.table = table;
            this.tree = tree;
            this.reader = reader;
            this.plan = plan;
            this.inodes = inodes;
        }

        /** One run, which knows nothing but what stands on the disk: its refusal, or 0. */
        int turn(int ask, int groupSize) {
            if (ask == BACK) {
                goBack();
                return 0;
            }
            if (inodes.isThere()) {
                return 0;
            }
            if (!inodes.isMarked()) {
                int refusal = plan.refusal(groupSize, reader.scan(false));
                if (refusal != 0) {
                    return refusal;
                }
                prepare();
            }
            // Read anew behind the mark: what is fixed may now overwrite clusters that have moved.
            if (disk.isOn() && recall() && reader.scan(true) == 0 && plan.assign()) {
                plan.markUsed();
                putFixed();
            }
            return 0;
        }

        private boolean recall() {
            return inodes.isMarked() && plan.recall(inodes.markedSize(), inodes.markedInodes());
        }

        /** From any state behind the mark: what the record kept comes back, the mark goes last. */
        private void goBack() {
            if (!recall()) {
                return;
            }
            int kept = 2 * plan.room(0);
            copySector(kept, SUPER_SECTOR);
            for (int c = 2; c < table.clusters + 2 && disk.isOn(); c++) {
                if (table.goalOf(c) != 0) {
                    copyCluster(table.goalOf(c), c);
                }
            }
            copySector(kept + 1, 3);
            copySector(2 * plan.room(1), 4);
            copySector(2 * plan.room(1) + 1, 5);
            copySector(2 * plan.room(2), MARK_SECTOR);
        }

        private void copySector(int from, int to) {
            disk.load(from, block, 0);
            disk.store(to, block, 0);
        }

        private void copyCluster(int from, int to) {
            for (int i = 0; i < table.cluster; i++) {
                copySector(table.start + (from - 2) * table.cluster + i, table.start + (to - 2) * table.cluster + i);
            }
        }

        /** All that comes to free clusters, then the mark. */
        private void prepare() {
            for (int c = 2; c < table.clusters + 2 && disk.isOn(); c++) {
                if (table.goalOf(c) != 0) {
                    copyCluster(c, table.goalOf(c));
                }
            }
            keepSectors();
            for (int owner = RECORD; owner < tree.count && disk.isOn(); owner++) {
                if (tree.isDirectory(owner)) {
                    buildDirectory(owner);
                }
                buildIndirects(owner);
            }
            empty();
            putFour(0, MARK);
            putFour(4, plan.size);
            putFour(8, plan.inodes);
            disk.store(MARK_SECTOR, block, 0);
        }

        private void keepSectors() {
            copySector(2, 2 * plan.room(0));
            copySector(3, 2 * plan.room(0) + 1);
            copySector(4, 2 * plan.room(1));
            copySector(5, 2 * plan.room(1) + 1);
            copySector(MARK_SECTOR, 2 * plan.room(2));
            empty();
            disk.store(2 * plan.room(2) + 1, block, 0);
        }

        private void empty() {
            Arrays.fill(block, (byte) 0);
        }

        private void storeBlock(int b) {
            disk.store(2 * b, block, 0);
            disk.store(2 * b + 1, block, SECTOR);
        }

        private void putOne(int at, int value) {
            if (at >= 0 && at < BLOCK) {
                block[at] = (byte) value;
            }
        }

        private void putTwo(int at, int value) {
            if (at >= 0 && at <= BLOCK - 2) {
                block[at] = (byte) value;
                block[at + 1] = (byte) (value >> 8);
            }
        }

        private void putFour(int at, int value) {
            if (at >= 0 && at <= BLOCK - 4) {
                block[at] = (byte) value;
                block[at + 1] = (byte) (value >> 8);
                block[at + 2] = (byte) (value >> 16);
                block[at + 3] = (byte) (value >> 24);
            }
        }

        private void buildDirectory(int d) {
            int room = tree.builtOf(d);
            int at = 0;
            int last = 0;
            empty();
            for (int e = 0; e < plan.entriesOf(d); e++) {
                int length = Plan.entryLength(plan.nameSize(d, e));
                if (at + length > BLOCK) {
                    putTwo(last + 4, BLOCK - last);
                    storeBlock(plan.room(room));
                    empty();
                    room++;
                    at = 0;
                }
                putEntry(at, d, e);
                putTwo(at + 4, length);
                last = at;
                at += length;
            }
            putTwo(last + 4, BLOCK - last);
            storeBlock(plan.room(room));
        }

        private static int inodeOf(int item) {
            return item == 0 ? ROOT_INODE : RECORD_INODE + item;
        }

        private void putEntry(int at, int d, int e) {
            boolean isKid = e >= 2 && e - 2 < tree.countIn(d);
            int item = e == 0 ? d : e == 1 ? tree.parentOf(d) : isKid ? tree.kid(d, e - 2) : RECORD;
            int n = plan.nameSize(d, e);
            putFour(at, item == RECORD ? RECORD_INODE : inodeOf(item));
            putOne(at + 6, n);
            putOne(at + 7, tree.isDirectory(item) ? 2 : 1);
            for (int i = 0; i < n; i++) {
                int letter = e < 2 ? POINT : isKid ? tree.nameByte(item, i)
                        : i < RECORD_NAME.length() ? RECORD_NAME.charAt(i) : 0;
                putOne(at + 8 + i, letter);
            }
        }

        private void buildIndirects(int owner) {
            plan.gather(owner);
            int first = plan.firstIndirect(owner);
            int count = Plan.indirects(plan.listed);
            if (count > 0) {
                putPointers(DIRECT);
                storeBlock(plan.room(first));
            }
            if (count > 1) {
                empty();
                for (int j = 2; j < count; j++) {
                    putFour(4 * (j - 2), plan.room(first + j));
                }
                storeBlock(plan.room(first + 1));
            }
            for (int j = 2; j < count; j++) {
                putPointers(DIRECT + (j - 1) * POINTERS);
                storeBlock(plan.room(first + j));
            }
        }

        private void putPointers(int from) {
            empty();
            for (int i = 0; i < POINTERS && from + i < plan.listed; i++) {
                putFour(4 * i, plan.list[from + i]);
            }
        }

        /** What is fixed; sector 2 comes last, as an inode volume stands with it. */
        private void putFixed() {
            for (int g = 0; g < plan.groups && disk.isOn(); g++) {
                if (g > 0) {
                    fillSuperblock(g);
                    storeBlock(plan.firstBlock(g));
                    fillDescriptors();
                    storeBlock(plan.firstBlock(g) + 1);
                }
                int map = plan.mapBlock(g);
                fillBlockMap(g);
                storeBlock(map);
                fillInodeMap(g);
                storeBlock(map + 1);
                for (int j = 0; j < plan.inodes / 8; j++) {
                    fillInodes(g * plan.inodes + 8 * j + 1);
                    storeBlock(map + 2 + j);
                }
            }
            fillDescriptors();
            storeBlock(2);
            fillSuperblock(0);
            disk.store(SUPER_SECTOR + 1, block, SECTOR);
            disk.store(SUPER_SECTOR, block, 0);
        }

        private void fillSuperblock(int group) {
            empty();
            putFour(0, plan.groups * plan.inodes);
            putFour(4, plan.blocks);
            putFour(12, plan.free);
            putFour(16, plan.groups * plan.inodes - plan.usedInodes());
            putFour(20, 1);
            putFour(32, plan.size);
            putFour(36, plan.size);
            putFour(40, plan.inodes);
            putTwo(54, 65535);
            putTwo(56, MAGIC);
            putTwo(58, 1);
            putTwo(60, 1);
            putFour(76, 1);
            putFour(84, RECORD_INODE);
            putTwo(88, INODE);
            putTwo(90, group);
            putFour(96, 2);
            putFour(104, disk.four(67));
            if (tree.label != NONE) {
                putLabel();
            }
        }

        private void putLabel() {
            int n = SHORT_NAME;
            while (n > 0 && disk.one(tree.label + n - 1) == BLANK) {
                n--;
            }
            for (int i = 0; i < n; i++) {
                putOne(120 + i, disk.one(tree.label + i));
            }
        }

        private void fillDescriptors() {
            empty();
            for (int g = 0; g < plan.groups; g++) {
                int at = g * 32;
                putFour(at, plan.mapBlock(g));
                putFour(at + 4, plan.mapBlock(g) + 1);
                putFour(at + 8, plan.mapBlock(g) + 2);
                putTwo(at + 12, plan.freeBlocks(g));
                putTwo(at + 14, plan.freeInodes(g));
                putTwo(at + 16, directoriesOf(g));
            }
        }

        private int directoriesOf(int group) {
            int n = 0;
            for (int i = 0; i < tree.count; i++) {
                int k = inodeOf(i) - 1 - group * plan.inodes;
                n += tree.isDirectory(i) && k >= 0 && k < plan.inodes ? 1 : 0;
            }
            return n;
        }

        private void dropBit(int k) {
            int at = k >> 3;
            if (at >= 0 && at < BLOCK) {
                block[at] = (byte) (block[at] & ~(1 << (k & 7)));
            }
        }

        private void fillBlockMap(int group) {
            Arrays.fill(block, (byte) 255);
            for (int k = 0; k < plan.blocksOf(group); k++) {
                if (!plan.isUsed(plan.firstBlock(group) + k)) {
                    dropBit(k);
                }
            }
        }

        private void fillInodeMap(int group) {
            Arrays.fill(block, (byte) 255);
            for (int k = plan.inodes - plan.freeInodes(group); k < plan.inodes; k++) {
                dropBit(k);
            }
        }

        /** A block of eight inodes. */
        private void fillInodes(int first) {
            empty();
            for (int j = 0; j < 8; j++) {
                int inode = first + j;
                if (inode == ROOT_INODE) {
                    fillInode(j * INODE, 0);
                } else if (inode == RECORD_INODE) {
                    fillInode(j * INODE, RECORD);
                } else if (inode > RECORD_INODE && inode - RECORD_INODE < tree.count) {
                    fillInode(j * INODE, inode - RECORD_INODE);
                }
            }
        }

        private void fillInode(int at, int owner) {
            plan.gather(owner);
            boolean isFile = owner != RECORD && !tree.isDirectory(owner);
            int indirects = Plan.indirects(plan.listed);
            int first = plan.firstIndirect(owner);
            putTwo(at, modeOf(owner));
            putFour(at + 4, isFile ? tree.sizeOf(owner) : plan.listed * BLOCK);
            if (owner > 0) {
                for (int what = ABOUT_READ; what <= ABOUT_WRITTEN; what++) {
                    putFour(at + 4 * what, (int) Days.seconds(disk, tree.spotOf(owner), what));
                }
            }
            putTwo(at + 26, linksOf(owner));
            putFour(at + 28, 2 * (plan.listed + indirects));
            for (int i = 0; i < DIRECT && i < plan.listed; i++) {
                putFour(at + 40 + 4 * i, plan.list[i]);
            }
            for (int i = 0; i < indirects && i < 2; i++) {
                putFour(at + 88 + 4 * i, plan.room(first + i));
            }
        }

        private int modeOf(int owner) {
            if (owner == RECORD) {
                return 33024;
            }
            int mode = tree.isDirectory(owner) ? 16877 : 33188;
            return tree.isReadOnly(owner) ? mode - 128 : mode;
        }

        private int linksOf(int owner) {
            if (!tree.isDirectory(owner)) {
                return 1;
            }
            int links = 2;
            for (int i = 0; i < tree.countIn(owner); i++) {
                links += tree.isDirectory(tree.kid(owner, i)) ? 1 : 0;
            }
            return links;
        }
    }

    /** Reads an inode volume, and the mark, as they stand on the disk. */
    private static final class Inodes {
        private static final int SUPERBLOCK = SUPER_SECTOR * SECTOR;
        private static final int DESCRIPTORS = 2 * BLOCK;
        private static final int MARK_PLACE = MARK_SECTOR * SECTOR;
        private static final int LEAST_ENTRY = 12;

        private final Disk disk;
        private int seen = 0;

        Inodes(Disk disk) {
            this.disk = disk;
        }

        boolean isMarked() {
            return disk.four(MARK_PLACE) == MARK;
        }

        int markedSize() {
            return disk.four(MARK_PLACE + 4);
        }

        int markedInodes() {
            return disk.four(MARK_PLACE + 8);
        }

        boolean isThere() {
            return isMarked() && disk.two(SUPERBLOCK + 56) == MAGIC;
        }

        int groupSize() {
            return disk.four(SUPERBLOCK + 32);
        }

        /** Whether a sector is shown: those of block 0 and of used blocks. */
        boolean shows(int sector) {
            int size = groupSize();
            int b = sector / 2;
            if (b < 1 || size < 1) {
                return true;
            }
            int k = (b - 1) % size;
            int map = disk.four(DESCRIPTORS + 32 * ((b - 1) / size));
            return (disk.one(map * BLOCK + k / 8) >> k % 8 & 1) != 0;
        }

        private int inodePlace(int inode) {
            int ofGroup = disk.four(SUPERBLOCK + 40);
            if (inode < 1 || ofGroup < 1) {
                return 0;
            }
            int first = disk.four(DESCRIPTORS + 32 * ((inode - 1) / ofGroup) + 8);
            return first * BLOCK + (inode - 1) % ofGroup * INODE;
        }

        /** Block j of the inode at a place. */
        private int blockOf(int place, int j) {
            if (j < DIRECT) {
                return disk.four(place + 40 + 4 * j);
            }
            int behind = j - DIRECT;
            if (behind < POINTERS) {
                return disk.four(disk.four(place + 88) * BLOCK + 4 * behind);
            }
            behind -= POINTERS;
            int indirect = disk.four(disk.four(place + 92) * BLOCK + 4 * (behind / POINTERS));
            return disk.four(indirect * BLOCK + 4 * (behind % POINTERS));
        }

        private static int directoryInode(int here) {
            return here == 0 ? ROOT_INODE : here;
        }

        /** Where entry k of a directory ("." is 0) stands; NONE, and all are counted, if there is none such. */
        int findEntry(int here, int k) {
            int place = inodePlace(directoryInode(here));
            int blocks = disk.four(place + 4) / BLOCK;
            seen = 0;
            for (int j = 0; j < blocks; j++) {
                int from = blockOf(place, j) * BLOCK;
                for (int at = 0; at < BLOCK; at += Math.max(disk.two(from + at + 4), LEAST_ENTRY)) {
                    if (seen == k) {
                        return from + at;
                    }
                    seen++;
                }
            }
            return NONE;
        }

        /** How many items a directory has. */
        int countIn(int here) {
            findEntry(here, NONE);
            return seen - 2;
        }

        /** HERE of the parent, 0 being the root. */
        int parentOf(int here) {
            int inode = inodeOf(findEntry(here, 1));
            return inode == ROOT_INODE ? 0 : inode;
        }

        int inodeOf(int entry) {
            return disk.four(entry);
        }

        int nameByte(int entry, int i) {
            return i >= 0 && i < disk.one(entry + 6) ? disk.one(entry + 8 + i) : NONE;
        }

        boolean isDirectory(int entry) {
            return disk.one(entry + 7) == 2;
        }

        long tell(int entry, int what) {
            int place = inodePlace(inodeOf(entry));
            switch (what) {
                case 0:
                    return isDirectory(entry) ? 1 : 0;
                case 1:
                    return (disk.two(place) & 128) == 0 ? 1 : 0;
                case 5:
                    return disk.four(place + 4) & FOUR_BYTES;
                default:
                    // READ, MADE and WRITTEN, asked for by 2, 3 and 4, stand at 8, 12 and 16.
                    return disk.four(place + 4 * what) & FOUR_BYTES;
            }
        }

        int fileByte(int entry, int i) {
            int place = inodePlace(inodeOf(entry));
            if (isDirectory(entry) || i < 0 || i >= disk.four(place + 4)) {
                return NONE;
            }
            return disk.one(blockOf(place, i / BLOCK) * BLOCK + i % BLOCK);
        }
    }
}
