import java.nio.charset.StandardCharsets;
import java.time.DateTimeException;
import java.time.LocalDate;
import java.util.ArrayDeque;
import java.util.ArrayList;
import java.util.Arrays;
import java.util.BitSet;
import java.util.HashMap;
import java.util.HashSet;
import java.util.List;
import java.util.Map;
import java.util.Set;
import java.util.TreeMap;

/**
 * The document once more, with the Java library and without thrift: every call reads the whole disk
 * anew, and a turn makes the new volume in one go and keeps the old one beside it. The tests compare
 * VolumeTurner with it, call by call.
 */
final class Oracle {
    static final int NONE = -1;

    final int n;
    byte[] disk;
    /** Of an inode volume: the tree and the plan it was made of, the used blocks, the old disk. */
    Volume turned;
    Layout turnedLayout;
    byte[] old;
    final ArrayList<Integer> tape = new ArrayList<>();
    byte[] ready = new byte[20];
    int failCount;
    boolean pokeable = true;
    List<Integer> herePath = new ArrayList<>();

    Oracle(int sectors) {
        int k = sectors < 256 ? 256 : sectors > 1024 ? 1024 : sectors;
        n = k % 2 == 1 ? k - 1 : k;
        disk = new byte[n * 512];
    }

    static final class Bad extends RuntimeException {
        private static final long serialVersionUID = 1L;
        final int code;

        Bad(int code) {
            super("fault " + code, null, false, false);
            this.code = code;
        }
    }

    static void need(boolean holds, int code) {
        if (!holds) {
            throw new Bad(code);
        }
    }

    static long number(byte[] d, int at, int bytes) {
        long v = 0;
        for (int i = bytes - 1; i >= 0; i--) {
            v = v << 8 | d[at + i] & 0xff;
        }
        return v;
    }

    static void put(byte[] d, int at, int bytes, long value) {
        for (int i = 0; i < bytes; i++) {
            d[at + i] = (byte) (value >> 8 * i);
        }
    }

    static String upper(String name) {
        StringBuilder b = new StringBuilder();
        for (char c : name.toCharArray()) {
            b.append(c >= 'a' && c <= 'z' ? (char) (c - 'a' + 'A') : c);
        }
        return b.toString();
    }

    static final String SHORT = "ABCDEFGHIJKLMNOPQRSTUVWXYZ0123456789!#$%&'()-@^_`{}~";

    static LocalDate date(long day) {
        try {
            return LocalDate.of(1980 + (int) (day / 512), (int) (day / 32 % 16), (int) (day % 32));
        } catch (DateTimeException e) {
            return null;
        }
    }

    static boolean isDay(long day) {
        return day >= 0 && day < 65536 && date(day) != null;
    }

    static boolean isTime(long time) {
        return time >= 0 && time / 2048 < 24 && time / 32 % 64 < 60 && time % 32 < 30;
    }

    static boolean isName(String name) {
        if (name.length() < 1 || name.length() > 255 || name.equals(".") || name.equals("..")) {
            return false;
        }
        for (char c : name.toCharArray()) {
            if (c < 32 || "\"*/:<>?\\|".indexOf(c) >= 0 || c == 127 || c >= 55296 && c <= 57343 || c > 65533) {
                return false;
            }
        }
        return !name.endsWith(" ") && !name.endsWith(".");
    }

    static final class Node {
        Node parent;
        boolean directory;
        boolean readOnly;
        String name;
        String shortName;
        int at;
        int slot;
        int parts;
        long size;
        int first;
        List<Integer> chain = new ArrayList<>();
        final List<Node> kids = new ArrayList<>();
        long read;
        long made;
        long written;

        byte[] bytes() {
            return name.getBytes(StandardCharsets.UTF_8);
        }
    }

    static final class Volume {
        final byte[] d;
        final int n;
        final int c;
        final int v;
        final int y;
        final int z;
        final int a;
        final int k;
        final int[] fat;
        final Set<Integer> taken = new HashSet<>();
        final List<Node> items = new ArrayList<>();
        String label;

        /** Sector 0 and the tables. */
        Volume(byte[] d, int n) {
            this.d = d;
            this.n = n;
            c = (int) number(d, 13, 1);
            v = (int) number(d, 14, 2);
            y = (int) number(d, 16, 1);
            long zed = number(d, 36, 4);
            need(number(d, 11, 2) == 512 && (c == 2 || c == 4 || c == 8) && v >= 8 && v <= 64 && (y == 1 || y == 2), 1);
            need(number(d, 17, 2) == 0 && number(d, 19, 2) == 0 && number(d, 22, 2) == 0 && number(d, 32, 4) == n, 1);
            need(zed >= 1 && zed <= 32 && number(d, 48, 2) == 1 && number(d, 50, 2) == 6 && number(d, 510, 2) == 43605, 1);
            z = (int) zed;
            a = v + y * z;
            k = (n - a) / c;
            long root = number(d, 44, 4);
            need(k >= 4 && 128 * z >= k + 2 && root >= 2 && root <= k + 1, 1);
            fat = new int[k + 2];
            for (int i = 0; i < k + 2; i++) {
                fat[i] = (int) (number(d, v * 512 + 4 * i, 4) & 0xfffffff);
            }
        }

        int rootCluster() {
            return (int) number(d, 44, 4);
        }

        int place(int cluster) {
            return (a + (cluster - 2) * c) * 512;
        }

        boolean isEnd(int entry) {
            return entry >= 268435448;
        }

        void checkTables() {
            for (int i = 0; i < k + 2; i++) {
                int at = v * 512 + 4 * i;
                need(y == 1 || number(d, at, 4) == number(d, at + z * 512, 4), 2);
                if (i < 2) {
                    need(fat[i] == (i == 0 ? 268435448 : 268435455), 2);
                } else {
                    need(fat[i] == 0 || fat[i] >= 2 && fat[i] <= k + 1 || isEnd(fat[i]), 2);
                }
            }
        }

        List<Integer> chain(long first) {
            List<Integer> all = new ArrayList<>();
            long next = first;
            do {
                need(next >= 2 && next <= k + 1, 3);
                int here = (int) next;
                need(fat[here] != 0 && taken.add(here), 3);
                all.add(here);
                next = fat[here];
            } while (!isEnd((int) next));
            return all;
        }

        int slotPlace(List<Integer> chain, int s) {
            return place(chain.get(s / (16 * c))) + s % (16 * c) * 32;
        }

        Volume readTree() {
            checkTables();
            Node root = new Node();
            root.directory = true;
            root.first = rootCluster();
            items.add(root);
            for (int i = 0; i < items.size(); i++) {
                if (items.get(i).directory) {
                    readDirectory(items.get(i));
                    items.addAll(items.get(i).kids);
                }
            }
            for (int i = 2; i < k + 2; i++) {
                need(fat[i] == 0 || taken.contains(i), 6);
            }
            return this;
        }

        void readDirectory(Node dir) {
            dir.chain = chain(dir.first);
            boolean isRoot = dir.parent == null;
            Set<String> names = new HashSet<>();
            Set<String> shorts = new HashSet<>();
            ArrayDeque<Integer> parts = new ArrayDeque<>();
            int all = dir.chain.size() * c * 16;
            int s = 0;
            for (; s < all; s++) {
                int at = slotPlace(dir.chain, s);
                int b = d[at] & 0xff;
                if (b == 0) {
                    break;
                }
                if (!isRoot && s < 2) {
                    checkDots(dir, s, at);
                } else if (b == 229) {
                    need(parts.isEmpty(), 4);
                } else if ((d[at + 11] & 63) == 15) {
                    checkPart(parts, at);
                    parts.push(at);
                } else {
                    readEntry(dir, s, at, parts, names, shorts);
                    parts.clear();
                }
            }
            need(parts.isEmpty() && (isRoot || s >= 2), 4);
        }

        long cluster(int at) {
            return number(d, at + 20, 2) << 16 | number(d, at + 26, 2);
        }

        String text(int at, int length) {
            return new String(d, at, length, StandardCharsets.ISO_8859_1);
        }

        void checkDots(Node dir, int s, int at) {
            need(text(at, 11).equals(s == 0 ? ".          " : "..         ") && d[at + 11] == 16, 4);
            long above = dir.parent.parent == null ? 0 : dir.parent.first;
            need(cluster(at) == (s == 0 ? dir.first : above), 4);
        }

        /** The parts before this one stand in the deque, the nearest first. */
        void checkPart(ArrayDeque<Integer> parts, int at) {
            int number = d[at] & 0xff;
            need(d[at + 12] == 0 && number(d, at + 26, 2) == 0, 4);
            if (parts.isEmpty()) {
                need(number >= 65 && number <= 84, 4);
            } else {
                need(number >= 1 && number == (d[parts.peek()] & 0xff & ~64) - 1, 4);
            }
        }

        void readEntry(Node dir, int s, int at, ArrayDeque<Integer> parts, Set<String> names, Set<String> shorts) {
            int bits = d[at + 11] & 0xff;
            boolean isLabel = (bits & 8) != 0;
            Node e = new Node();
            e.parent = dir;
            e.at = at;
            e.slot = s;
            e.parts = parts.size();
            e.directory = (bits & 16) != 0;
            e.readOnly = (bits & 1) != 0;
            e.shortName = text(at, 11);
            e.size = number(d, at + 28, 4);
            need((bits & 0xc0) == 0 && !(isLabel && e.directory), 4);
            checkShort(e.shortName, isLabel);
            readTimes(e);
            if (isLabel) {
                need(parts.isEmpty() && dir.parent == null && label == null && cluster(at) == 0 && e.size == 0, 4);
                label = e.shortName;
                return;
            }
            need(!e.directory || e.size == 0, 4);
            e.name = parts.isEmpty() ? shown(e.shortName) : longName(e, parts);
            need(names.add(upper(e.name)) & shorts.add(e.shortName), 5);
            if (e.directory) {
                e.first = cluster(at) > 100000 ? -1 : (int) cluster(at);
            } else if (e.size == 0) {
                need(cluster(at) == 0, 3);
            } else {
                e.chain = chain(cluster(at));
                e.first = e.chain.get(0);
                need(e.chain.size() == (e.size + 512L * c - 1) / (512L * c), 3);
            }
            dir.kids.add(e);
        }

        static void checkShort(String name, boolean isLabel) {
            if (isLabel) {
                need(name.matches("[^ ].*") && name.replace(" ", "").chars().allMatch(x -> SHORT.indexOf(x) >= 0), 4);
                return;
            }
            String base = name.substring(0, 8).replaceAll(" +$", "");
            String ext = name.substring(8).replaceAll(" +$", "");
            need(!base.isEmpty() && (base + ext).chars().allMatch(x -> SHORT.indexOf(x) >= 0), 4);
        }

        static String shown(String name) {
            String ext = name.substring(8).trim();
            return name.substring(0, 8).trim() + (ext.isEmpty() ? "" : "." + ext);
        }

        static int sum(String name) {
            int sum = 0;
            for (char x : name.toCharArray()) {
                sum = ((sum & 1) * 128 + sum / 2 + x) % 256;
            }
            return sum;
        }

        String longName(Node e, ArrayDeque<Integer> parts) {
            StringBuilder all = new StringBuilder();
            int number = 1;
            for (int at : parts) {
                need((d[at] & 63) == number && (d[at + 13] & 0xff) == sum(e.shortName), 4);
                number++;
                for (int i = 0; i < 13; i++) {
                    int spot = i < 5 ? 1 + 2 * i : i < 11 ? 14 + 2 * (i - 5) : 28 + 2 * (i - 11);
                    all.append((char) number(d, at + spot, 2));
                }
            }
            int end = all.indexOf("\0");
            String name = end < 0 ? all.toString() : all.substring(0, end);
            StringBuilder due = new StringBuilder(name);
            while (due.length() < all.length()) {
                due.append(due.length() == name.length() ? '\0' : '\uffff');
            }
            need(due.toString().equals(all.toString()) && isName(name) && (name.length() + 12) / 13 == parts.size(), 4);
            return name;
        }

        void readTimes(Node e) {
            long madeDay = number(d, e.at + 16, 2);
            long madeTime = number(d, e.at + 14, 2);
            long hundredths = number(d, e.at + 13, 1);
            long readDay = number(d, e.at + 18, 2);
            long day = number(d, e.at + 24, 2);
            long time = number(d, e.at + 22, 2);
            need(isDay(day) && isTime(time) && (readDay == 0 || isDay(readDay)) && hundredths < 200, 4);
            need(madeDay == 0 ? madeTime == 0 && hundredths == 0 : isDay(madeDay) && isTime(madeTime), 4);
            e.written = seconds(day, time);
            e.made = madeDay == 0 ? e.written : seconds(madeDay, madeTime) + hundredths / 100;
            e.read = readDay == 0 ? e.written : seconds(readDay, 0);
        }

        static long seconds(long day, long time) {
            return date(day).toEpochDay() * 86400 + time / 2048 * 3600 + time / 32 % 64 * 60 + time % 32 * 2;
        }
    }

    static final class Layout {
        int p;
        int b;
        int q;
        int g;
        int j;
        final BitSet fixed = new BitSet();
        final Map<Integer, Integer> moves = new TreeMap<>();
        final BitSet used = new BitSet();
        int built;
        byte[] image;
    }

    /** The plan with the volume that it leads to; Bad tells the refusal. */
    static Layout layout(Volume t, int p) {
        need(t.a % 2 == 0, 11);
        need(p == 64 || p == 128 || p == 256, 12);
        Layout l = new Layout();
        l.p = p;
        l.b = t.n / 2;
        l.q = (l.b - 1) / p + ((l.b - 1) % p == 0 ? 0 : 1);
        while (l.q * l.g < 11 + t.items.size() - 1) {
            l.g += 8;
        }
        l.j = l.g / 8;
        for (int i = 0; i < l.q; i++) {
            int blocks = Math.min(l.b, 1 + (i + 1) * p) - (1 + i * p);
            need(blocks >= (i == 0 ? t.a / 2 + l.j + 9 : l.j + 12), 12);
            int map = i == 0 ? t.a / 2 : 1 + i * p + 2;
            l.fixed.set(1 + i * p, 1 + i * p + 2);
            l.fixed.set(map, map + 2 + l.j);
        }
        for (int x = l.fixed.nextSetBit(3); x >= 0; x = l.fixed.nextSetBit(x + 1)) {
            need(2 * x >= t.a && 2 * x + 2 <= t.a + t.k * t.c, 12);
        }
        for (Node i : t.items.subList(1, t.items.size())) {
            need(i.bytes().length <= 255 && !(i.parent.parent == null && upper(i.name).equals(".TURNED")), 13);
        }
        for (Node i : t.items.subList(1, t.items.size())) {
            need(Math.max(i.read, Math.max(i.made, i.written)) <= 4294967295L, 14);
        }
        new Builder(t, l).build();
        return l;
    }

    static final class Builder {
        final Volume t;
        final Layout l;
        final ArrayDeque<Integer> rooms = new ArrayDeque<>();
        final Map<Node, List<Integer>> blocks = new HashMap<>();
        final Map<Node, List<Integer>> indirect = new HashMap<>();
        final Node record = new Node();

        Builder(Volume t, Layout l) {
            this.t = t;
            this.l = l;
        }

        List<Integer> blocksOf(int cluster) {
            List<Integer> all = new ArrayList<>();
            for (int i = 0; i < t.c / 2; i++) {
                all.add((t.a + (cluster - 2) * t.c) / 2 + i);
            }
            return all;
        }

        boolean touched(int cluster) {
            return blocksOf(cluster).stream().anyMatch(l.fixed::get);
        }

        void build() {
            for (int c = 2; c < t.k + 2; c++) {
                if (t.fat[c] != 0 && touched(c)) {
                    int to = 2;
                    while (to < t.k + 2 && (t.fat[to] != 0 || touched(to) || l.moves.containsValue(to))) {
                        to++;
                    }
                    need(to < t.k + 2, 15);
                    l.moves.put(c, to);
                }
            }
            for (int c = 2; c < t.k + 2; c++) {
                if (t.fat[c] == 0 && !l.moves.containsValue(c)) {
                    blocksOf(c).stream().filter(x -> !l.fixed.get(x)).forEach(rooms::add);
                }
            }
            int had = rooms.size();
            give();
            l.built = had - rooms.size();
            paint();
        }

        int take() {
            need(!rooms.isEmpty(), 15);
            return rooms.poll();
        }

        void takeIndirect(Node owner) {
            List<Integer> own = new ArrayList<>();
            int count = blocks.get(owner).size();
            if (count > 12) {
                own.add(take());
            }
            if (count > 268) {
                own.add(take());
                for (int i = 268; i < count; i += 256) {
                    own.add(take());
                }
            }
            indirect.put(owner, own);
        }

        List<Integer> standing(List<Integer> chain) {
            List<Integer> all = new ArrayList<>();
            chain.forEach(c -> all.addAll(blocksOf(l.moves.getOrDefault(c, c))));
            return all;
        }

        void give() {
            List<Integer> own = new ArrayList<>();
            for (int i = 0; i < 3; i++) {
                own.add(take());
            }
            for (int i = 3; i < t.a / 2; i++) {
                own.add(i);
            }
            t.items.stream().filter(x -> x.directory).forEach(x -> own.addAll(standing(x.chain)));
            blocks.put(record, own);
            takeIndirect(record);
            for (Node d : t.items) {
                if (d.directory) {
                    List<Integer> mine = new ArrayList<>();
                    for (int i = 0; i < directory(d).size(); i++) {
                        mine.add(take());
                    }
                    blocks.put(d, mine);
                    takeIndirect(d);
                }
            }
            for (Node f : t.items) {
                if (!f.directory) {
                    blocks.put(f, standing(f.chain).subList(0, (int) ((f.size + 1023) / 1024)));
                    takeIndirect(f);
                }
            }
        }

        int inode(Node item) {
            return item == record ? 11 : item.parent == null ? 2 : 11 + t.items.indexOf(item);
        }

        /** The blocks of a directory as bytes. */
        List<byte[]> directory(Node d) {
            List<Node> nodes = new ArrayList<>(List.of(d, d.parent == null ? d : d.parent));
            List<byte[]> names = new ArrayList<>(List.of(new byte[] {'.'}, new byte[] {'.', '.'}));
            for (Node kid : d.kids) {
                nodes.add(kid);
                names.add(kid.bytes());
            }
            if (d.parent == null) {
                nodes.add(record);
                names.add(".turned".getBytes(StandardCharsets.US_ASCII));
            }
            List<byte[]> all = new ArrayList<>();
            byte[] block = null;
            int at = 0;
            int last = 0;
            for (int i = 0; i < nodes.size(); i++) {
                int length = 8 + names.get(i).length;
                length += (4 - length % 4) % 4;
                if (block == null || at + length > 1024) {
                    if (block != null) {
                        put(block, last + 4, 2, 1024 - last);
                    }
                    block = new byte[1024];
                    all.add(block);
                    at = 0;
                }
                put(block, at, 4, inode(nodes.get(i)));
                put(block, at + 4, 2, length);
                put(block, at + 6, 1, names.get(i).length);
                put(block, at + 7, 1, nodes.get(i).directory ? 2 : 1);
                System.arraycopy(names.get(i), 0, block, at + 8, names.get(i).length);
                last = at;
                at += length;
            }
            put(block, last + 4, 2, 1024 - last);
            return all;
        }

        void copy(byte[] from, int at, int length, int block) {
            System.arraycopy(from, at, l.image, block * 1024, length);
        }

        void paint() {
            l.image = t.d.clone();
            l.moves.forEach((from, to) -> System.arraycopy(t.d, t.place(from), l.image, t.place(to), t.c * 512));
            for (int x = l.fixed.nextSetBit(0); x >= 0; x = l.fixed.nextSetBit(x + 1)) {
                copy(new byte[1024], 0, 1024, x);
            }
            List<Integer> own = blocks.get(record);
            copy(t.d, 1024, 1024, own.get(0));
            copy(t.d, 2048, 1024, own.get(1));
            copy(new byte[1024], 0, 1024, own.get(2));
            copy(t.d, 7 * 512, 512, own.get(2));
            byte[] mark = new byte[512];
            put(mark, 0, 4, 'T' | 'U' << 8 | 'R' << 16 | 'N' << 24);
            put(mark, 4, 4, l.p);
            put(mark, 8, 4, l.g);
            System.arraycopy(mark, 0, l.image, 7 * 512, 512);
            for (Node d : t.items) {
                for (int i = 0; d.directory && i < blocks.get(d).size(); i++) {
                    copy(directory(d).get(i), 0, 1024, blocks.get(d).get(i));
                }
            }
            l.used.or(l.fixed);
            blocks.values().forEach(x -> x.forEach(l.used::set));
            indirect.values().forEach(x -> x.forEach(l.used::set));
            blocks.keySet().forEach(this::paintPointers);
            paintFixed();
        }

        void paintPointers(Node owner) {
            List<Integer> all = blocks.get(owner);
            List<Integer> more = indirect.get(owner);
            byte[] twice = new byte[1024];
            for (int i = 0; i < more.size(); i++) {
                if (i != 1) {
                    byte[] block = new byte[1024];
                    int from = i == 0 ? 12 : 12 + 256 * (i - 1);
                    for (int j = from; j < Math.min(all.size(), from + 256); j++) {
                        put(block, 4 * (j - from), 4, all.get(j));
                    }
                    copy(block, 0, 1024, more.get(i));
                }
                if (i > 1) {
                    put(twice, 4 * (i - 2), 4, more.get(i));
                }
            }
            if (more.size() > 1) {
                copy(twice, 0, 1024, more.get(1));
            }
        }

        int mapOf(int group) {
            return group == 0 ? t.a / 2 : 1 + group * l.p + 2;
        }

        void paintFixed() {
            int inodesUsed = 11 + t.items.size() - 1;
            int freeBlocks = 0;
            byte[] descriptors = new byte[1024];
            for (int group = 0; group < l.q; group++) {
                int from = 1 + group * l.p;
                int count = Math.min(l.p, l.b - from);
                byte[] blockMap = new byte[1024];
                byte[] inodeMap = new byte[1024];
                int free = 0;
                int freeInodes = 0;
                for (int i = 0; i < 8192; i++) {
                    boolean isFree = i < count && !l.used.get(from + i);
                    boolean isFreeInode = i < l.g && group * l.g + i + 1 > inodesUsed;
                    free += isFree ? 1 : 0;
                    freeInodes += isFreeInode ? 1 : 0;
                    blockMap[i / 8] |= (byte) (isFree ? 0 : 1 << i % 8);
                    inodeMap[i / 8] |= (byte) (isFreeInode ? 0 : 1 << i % 8);
                }
                freeBlocks += free;
                copy(blockMap, 0, 1024, mapOf(group));
                copy(inodeMap, 0, 1024, mapOf(group) + 1);
                int g = group;
                put(descriptors, 32 * group, 4, mapOf(group));
                put(descriptors, 32 * group + 4, 4, mapOf(group) + 1);
                put(descriptors, 32 * group + 8, 4, mapOf(group) + 2);
                put(descriptors, 32 * group + 12, 2, free);
                put(descriptors, 32 * group + 14, 2, freeInodes);
                put(descriptors, 32 * group + 16, 2,
                        t.items.stream().filter(x -> x.directory && (inode(x) - 1) / l.g == g).count());
            }
            for (int group = 0; group < l.q; group++) {
                copy(superblock(group, freeBlocks, l.q * l.g - inodesUsed), 0, 1024, 1 + group * l.p);
                copy(descriptors, 0, 1024, 2 + group * l.p);
            }
            blocks.keySet().forEach(this::paintInode);
        }

        byte[] superblock(int group, int freeBlocks, int freeInodes) {
            byte[] s = new byte[1024];
            int[][] numbers = {
                {0, 4, l.q * l.g}, {4, 4, l.b}, {12, 4, freeBlocks}, {16, 4, freeInodes}, {20, 4, 1}, {32, 4, l.p},
                {36, 4, l.p}, {40, 4, l.g}, {54, 2, 65535}, {56, 2, 61267}, {58, 2, 1}, {60, 2, 1}, {76, 4, 1},
                {84, 4, 11}, {88, 2, 128}, {90, 2, group}, {96, 4, 2}, {104, 4, (int) number(t.d, 67, 4)}};
            for (int[] x : numbers) {
                put(s, x[0], x[1], x[2]);
            }
            byte[] label = t.label == null ? new byte[0]
                    : t.label.replaceAll(" +$", "").getBytes(StandardCharsets.US_ASCII);
            System.arraycopy(label, 0, s, 120, label.length);
            return s;
        }

        void paintInode(Node owner) {
            int k = inode(owner) - 1;
            int at = (mapOf(k / l.g) + 2) * 1024 + k % l.g * 128;
            List<Integer> all = blocks.get(owner);
            List<Integer> more = indirect.get(owner);
            boolean isItem = owner != record && owner.parent != null;
            int mode = owner == record ? 33024 : (owner.directory ? 16877 : 33188) - (owner.readOnly ? 128 : 0);
            put(l.image, at, 2, mode);
            put(l.image, at + 4, 4, isItem && !owner.directory ? owner.size : 1024L * all.size());
            put(l.image, at + 8, 4, isItem ? owner.read : 0);
            put(l.image, at + 12, 4, isItem ? owner.made : 0);
            put(l.image, at + 16, 4, isItem ? owner.written : 0);
            put(l.image, at + 26, 2, owner.directory ? 2 + owner.kids.stream().filter(x -> x.directory).count() : 1);
            put(l.image, at + 28, 4, 2L * (all.size() + more.size()));
            for (int i = 0; i < Math.min(12, all.size()); i++) {
                put(l.image, at + 40 + 4 * i, 4, all.get(i));
            }
            for (int i = 0; i < Math.min(2, more.size()); i++) {
                put(l.image, at + 88 + 4 * i, 4, more.get(i));
            }
        }
    }

    // ---- the calls

    void feed(int a, int b, int c, int d, int e) {
        int[] all = {a, b, c, d, e};
        for (int i = 0; i < 20; i++) {
            ready[i] = (byte) (all[i / 4] >>> 8 * (3 - i % 4));
        }
    }

    int end(int count) {
        if (count < 0 || count > 20 || tape.size() + count > 4096) {
            return NONE;
        }
        for (int i = 0; i < count; i++) {
            tape.add(ready[i] & 0xff);
        }
        ready = new byte[20];
        return tape.size();
    }

    void clear() {
        tape.clear();
    }

    List<Integer> takeTape() {
        List<Integer> all = new ArrayList<>(tape);
        tape.clear();
        return all;
    }

    int format(int cluster, int before, int tables, int id) {
        List<Integer> bytes = takeTape();
        StringBuilder label = new StringBuilder();
        bytes.forEach(x -> label.append((char) (int) x));
        try {
            need(cluster == 2 || cluster == 4 || cluster == 8, 1);
            need(before >= 8 && before <= 64 && tables >= 1 && tables <= 2, 1);
            need(label.length() <= 11, 1);
            while (label.length() < 11) {
                label.append(' ');
            }
            if (!bytes.isEmpty()) {
                Volume.checkShort(label.toString(), true);
            }
        } catch (Bad e) {
            throw new IllegalArgumentException();
        }
        int z = 1;
        while (128 * z < (n - before - tables * z) / cluster + 2) {
            z++;
        }
        byte[] d = new byte[n * 512];
        long[][] numbers = {{3, 8, 0x2020202020202020L}, {11, 2, 512}, {13, 1, cluster}, {14, 2, before}, {16, 1, tables},
            {32, 4, n}, {36, 4, z}, {44, 4, 2}, {48, 2, 1}, {50, 2, 6}, {67, 4, id}, {510, 2, 43605}};
        for (long[] x : numbers) {
            put(d, (int) x[0], (int) x[1], x[2]);
            put(d, 3072 + (int) x[0], (int) x[1], x[2]);
        }
        put(d, 512, 4, 1096897106);
        put(d, 512 + 484, 4, 1631679090);
        put(d, 512 + 488, 4, 4294967295L);
        put(d, 512 + 492, 4, 4294967295L);
        put(d, 512 + 508, 4, 2857697280L);
        for (int i = 0; i < tables; i++) {
            int at = (before + i * z) * 512;
            put(d, at, 4, 268435448);
            put(d, at + 4, 4, 268435455);
            put(d, at + 8, 4, 268435455);
        }
        if (!bytes.isEmpty()) {
            int at = (before + tables * z) * 512;
            System.arraycopy(label.toString().getBytes(StandardCharsets.ISO_8859_1), 0, d, at, 11);
            d[at + 11] = 8;
            put(d, at + 24, 2, 33);
        }
        disk = d;
        turned = null;
        pokeable = true;
        herePath.clear();
        return new Volume(d, n).k;
    }

    boolean hasByte(int sector, int at) {
        return sector >= 0 && sector < n && at >= 0 && at < 512;
    }

    boolean poke(int sector, int at, int value) {
        if (!pokeable || !hasByte(sector, at) || sector == 2 || sector == 7) {
            return false;
        }
        disk[sector * 512 + at] = (byte) value;
        herePath.clear();
        return true;
    }

    int kind() {
        if (turned != null) {
            return 2;
        }
        try {
            new Volume(disk, n);
            return 1;
        } catch (Bad e) {
            return 0;
        }
    }

    int fault() {
        if (turned != null) {
            return 0;
        }
        try {
            new Volume(disk, n).readTree();
            return 0;
        } catch (Bad e) {
            return e.code;
        }
    }

    int byteAt(int sector, int at) {
        if (!hasByte(sector, at)) {
            return NONE;
        }
        return shown()[sector * 512 + at];
    }

    /** What byteAt answers for every byte of the disk. */
    int[] shown() {
        int kind = kind();
        Volume t = kind == 1 ? new Volume(disk, n) : null;
        int[] all = new int[disk.length];
        for (int i = 0; i < all.length; i++) {
            int sector = i / 512;
            boolean hidden = false;
            if (kind == 1 && sector >= t.a) {
                int c = (sector - t.a) / t.c + 2;
                hidden = c > t.k + 1 || t.fat[c] == 0;
            }
            if (kind == 2) {
                hidden = sector > 1 && !turnedLayout.used.get(sector / 2);
            }
            all[i] = hidden ? NONE : disk[i] & 0xff;
        }
        return all;
    }

    Volume tree() {
        if (turned != null) {
            return turned;
        }
        try {
            return new Volume(disk, n).readTree();
        } catch (Bad e) {
            throw new IllegalStateException();
        }
    }

    Volume soundTable() {
        if (turned != null) {
            throw new IllegalStateException();
        }
        return tree();
    }

    Node here(Volume t) {
        Node here = t.items.get(0);
        for (int k : herePath) {
            here = here.kids.get(k);
        }
        return here;
    }

    int items() {
        return count(here(tree()));
    }

    int count(Node dir) {
        return dir.kids.size() + (turned != null && dir.parent == null ? 1 : 0);
    }

    /** Item k here; null is the record. */
    Node item(Volume t, int k) {
        Node here = here(t);
        if (k < 0 || k >= count(here)) {
            throw new IndexOutOfBoundsException();
        }
        return k < here.kids.size() ? here.kids.get(k) : null;
    }

    int letter(int k, int i) {
        Node item = item(tree(), k);
        byte[] name = item == null ? ".turned".getBytes(StandardCharsets.US_ASCII) : item.bytes();
        return i < 0 || i >= name.length ? NONE : name[i] & 0xff;
    }

    /** An inode's number n at some place of it. */
    long ofInode(int inode, int at, int bytes) {
        int k = inode - 1;
        int table = (int) number(disk, 2048 + 32 * (k / turnedLayout.g) + 8, 4);
        return number(disk, table * 1024 + k % turnedLayout.g * 128 + at, bytes);
    }

    long about(int k, int what) {
        Volume t = tree();
        Node item = item(t, k);
        if (what < 0 || what > 5) {
            throw new IllegalArgumentException();
        }
        if (item == null) {
            return what == 1 ? 1 : what == 5 ? ofInode(11, 4, 4) : 0;
        }
        long[] all = {item.directory ? 1 : 0, item.readOnly ? 1 : 0, item.read & 0xffffffffL, item.made & 0xffffffffL,
            item.written & 0xffffffffL, item.size};
        if (what == 5 && turned != null && item.directory) {
            return ofInode(11 + t.items.indexOf(item), 4, 4);
        }
        return all[what];
    }

    int content(int k, int at) {
        Volume t = tree();
        Node item = item(t, k);
        if (item == null) {
            long size = ofInode(11, 4, 4);
            if (at < 0 || at >= size) {
                return NONE;
            }
            int j = at / 1024;
            long block = j < 12 ? ofInode(11, 40 + 4 * j, 4) : j < 268
                    ? number(disk, (int) ofInode(11, 88, 4) * 1024 + 4 * (j - 12), 4)
                    : number(disk, (int) number(disk, (int) ofInode(11, 92, 4) * 1024, 4) * 1024 + 4 * (j - 268), 4);
            return disk[(int) block * 1024 + at % 1024] & 0xff;
        }
        if (item.directory || at < 0 || at >= item.size) {
            return NONE;
        }
        return t.d[t.place(item.chain.get(at / (512 * t.c))) + at % (512 * t.c)] & 0xff;
    }

    int enter(int k) {
        Node item = item(tree(), k);
        if (item == null || !item.directory) {
            throw new IllegalArgumentException();
        }
        herePath.add(k);
        return item.kids.size();
    }

    boolean up() {
        tree();
        if (herePath.isEmpty()) {
            return false;
        }
        herePath.remove(herePath.size() - 1);
        return true;
    }

    void link(Volume t, int c, int value) {
        t.fat[c] = value;
        for (int i = 0; i < t.y; i++) {
            int at = (t.v + i * t.z) * 512 + 4 * c;
            put(disk, at, 4, number(disk, at, 4) & 0xf0000000L | value);
        }
    }

    int free(Volume t) {
        int count = 0;
        for (int c = 2; c < t.k + 2; c++) {
            count += t.fat[c] == 0 ? 1 : 0;
        }
        return count;
    }

    int take(Volume t, List<Integer> chain) {
        int c = 2;
        while (t.fat[c] != 0) {
            c++;
        }
        Arrays.fill(disk, t.place(c), t.place(c) + 512 * t.c, (byte) 0);
        if (!chain.isEmpty()) {
            link(t, chain.get(chain.size() - 1), c);
        }
        link(t, c, 268435455);
        chain.add(c);
        return c;
    }

    static String squeezed(String text) {
        StringBuilder b = new StringBuilder();
        for (char c : upper(text).replace(" ", "").replace(".", "").toCharArray()) {
            b.append(SHORT.indexOf(c) >= 0 ? c : '_');
        }
        return b.toString();
    }

    static String padded(String base, String ext) {
        return (base + "        ").substring(0, 8) + (ext + "   ").substring(0, 3);
    }

    static boolean isPlain(String name) {
        String[] halves = name.split("\\.", -1);
        if (halves.length > 2 || halves[0].isEmpty() || halves[0].length() > 8) {
            return false;
        }
        if (halves.length == 2 && (halves[1].isEmpty() || halves[1].length() > 3)) {
            return false;
        }
        return String.join("", halves).chars().allMatch(x -> SHORT.indexOf(x) >= 0);
    }

    static String shortFor(String name, Set<String> taken) {
        if (isPlain(name)) {
            String[] halves = name.split("\\.", -1);
            return padded(halves[0], halves.length == 2 ? halves[1] : "");
        }
        int point = name.lastIndexOf('.');
        String base = squeezed(point <= 0 ? name : name.substring(0, point));
        String ext = point <= 0 ? "" : squeezed(name.substring(point + 1));
        ext = ext.substring(0, Math.min(3, ext.length()));
        for (int k = 1;; k++) {
            int keep = 7 - String.valueOf(k).length();
            String all = padded(base.substring(0, Math.min(keep, base.length())) + "~" + k, ext);
            if (!taken.contains(all)) {
                return all;
            }
        }
    }

    int make(boolean directory) {
        List<Integer> bytes = takeTape();
        Volume t = soundTable();
        Node here = here(t);
        StringBuilder units = new StringBuilder();
        for (int i = 0; i + 1 < bytes.size(); i += 2) {
            units.append((char) (bytes.get(i) * 256 + bytes.get(i + 1)));
        }
        String name = units.toString();
        Set<String> shorts = new HashSet<>();
        here.kids.forEach(x -> shorts.add(x.shortName));
        boolean alike = here.kids.stream().anyMatch(x -> upper(x.name).equals(upper(name)));
        if (bytes.size() % 2 != 0 || !isName(name) || alike) {
            throw new IllegalArgumentException();
        }
        String shortName = shortFor(name, shorts);
        if (shorts.contains(shortName)) {
            throw new IllegalArgumentException();
        }
        int parts = isPlain(name) ? 0 : (name.length() + 12) / 13;
        int perCluster = 16 * t.c;
        boolean[] isFree = new boolean[here.chain.size() * perCluster];
        int seen = 0;
        while (seen < isFree.length && disk[t.slotPlace(here.chain, seen)] != 0) {
            isFree[seen] = (disk[t.slotPlace(here.chain, seen)] & 0xff) == 229;
            seen++;
        }
        Arrays.fill(isFree, seen, isFree.length, true);
        int start = 0;
        for (int i = 0; i <= parts && start + i < isFree.length; i++) {
            if (!isFree[start + i]) {
                start = start + i + 1;
                i = -1;
            }
        }
        int more = Math.max(0, (start + parts + 1 - isFree.length + perCluster - 1) / perCluster);
        if (more + (directory ? 1 : 0) > free(t)) {
            throw new UnsupportedOperationException();
        }
        List<Integer> own = new ArrayList<>();
        if (directory) {
            take(t, own);
        }
        List<Integer> chain = here.chain;
        for (int i = 0; i < more; i++) {
            take(t, chain);
        }
        byte[] slots = new byte[32 * (parts + 1)];
        for (int i = 0; i < parts; i++) {
            int at = 32 * i;
            int number = parts - i;
            slots[at] = (byte) (i == 0 ? number + 64 : number);
            slots[at + 11] = 15;
            slots[at + 13] = (byte) Volume.sum(shortName);
            for (int j = 0; j < 13; j++) {
                int u = (number - 1) * 13 + j;
                int unit = u < name.length() ? name.charAt(u) : u == name.length() ? 0 : 65535;
                put(slots, at + (j < 5 ? 1 + 2 * j : j < 11 ? 14 + 2 * (j - 5) : 28 + 2 * (j - 11)), 2, unit);
            }
        }
        fillEntry(slots, 32 * parts, shortName, directory ? 48 : 32, directory ? own.get(0) : 0);
        for (int i = 0; i <= parts; i++) {
            System.arraycopy(slots, 32 * i, disk, t.slotPlace(chain, start + i), 32);
        }
        int behind = start + parts + 1;
        if (behind >= seen && behind < chain.size() * perCluster) {
            disk[t.slotPlace(chain, behind)] = 0;
        }
        if (directory) {
            int at = t.place(own.get(0));
            fillEntry(disk, at, ".          ", 16, own.get(0));
            fillEntry(disk, at + 32, "..         ", 16, here.parent == null ? 0 : here.first);
        }
        int entrySlot = start;
        return (int) here.kids.stream().filter(x -> x.slot < entrySlot).count();
    }

    static void fillEntry(byte[] d, int at, String name, int bits, int cluster) {
        System.arraycopy(name.getBytes(StandardCharsets.ISO_8859_1), 0, d, at, 11);
        d[at + 11] = (byte) bits;
        put(d, at + 24, 2, 33);
        put(d, at + 20, 2, cluster >> 16);
        put(d, at + 26, 2, cluster & 65535);
    }

    Node file(Volume t, int k) {
        Node item = item(t, k);
        if (item.directory) {
            throw new IllegalArgumentException();
        }
        return item;
    }

    int append(Volume t, Node file, byte[] bytes) {
        int each = 512 * t.c;
        int size = (int) file.size + bytes.length;
        int more = (size + each - 1) / each - file.chain.size();
        if (more > free(t)) {
            throw new UnsupportedOperationException();
        }
        for (int i = 0; i < more; i++) {
            take(t, file.chain);
        }
        if (more > 0) {
            put(disk, file.at + 26, 2, file.chain.get(0));
            put(disk, file.at + 20, 2, file.chain.get(0) >> 16);
        }
        for (int i = 0; i < bytes.length; i++) {
            int at = (int) file.size + i;
            disk[t.place(file.chain.get(at / each)) + at % each] = bytes[i];
        }
        put(disk, file.at + 28, 4, size);
        return size;
    }

    int write(int k) {
        List<Integer> bytes = takeTape();
        Volume t = soundTable();
        byte[] all = new byte[bytes.size()];
        for (int i = 0; i < all.length; i++) {
            all[i] = (byte) (int) bytes.get(i);
        }
        return append(t, file(t, k), all);
    }

    int grow(int k, int count, int seed) {
        Volume t = soundTable();
        Node file = file(t, k);
        if (count < 0 || count > 400000) {
            throw new IllegalArgumentException();
        }
        byte[] all = new byte[count];
        for (long i = 0; i < count; i++) {
            all[(int) i] = (byte) (seed + i * i + i / 256);
        }
        return append(t, file, all);
    }

    int cut(int k, int size) {
        Volume t = soundTable();
        Node file = file(t, k);
        if (size < 0 || size > file.size) {
            throw new IllegalArgumentException();
        }
        int keep = (size + 512 * t.c - 1) / (512 * t.c);
        int gone = file.chain.size() - keep;
        if (gone > 0) {
            file.chain.subList(keep, file.chain.size()).forEach(c -> link(t, c, 0));
            if (keep > 0) {
                link(t, file.chain.get(keep - 1), 268435455);
            } else {
                put(disk, file.at + 20, 2, 0);
                put(disk, file.at + 26, 2, 0);
            }
        }
        put(disk, file.at + 28, 4, size);
        return gone;
    }

    void remove(int k) {
        Volume t = soundTable();
        Node item = item(t, k);
        if (!item.kids.isEmpty()) {
            throw new IllegalArgumentException();
        }
        for (int s = item.slot - item.parts; s <= item.slot; s++) {
            disk[t.slotPlace(item.parent.chain, s)] = (byte) 229;
        }
        item.chain.forEach(c -> link(t, c, 0));
    }

    void stamp(int k, int what, int day, int time) {
        Volume t = soundTable();
        Node item = item(t, k);
        int at = item.at;
        byte[] was = disk.clone();
        boolean inRange = what == 4 ? time == 0 || time == 1
                : what == 3 ? time >= 0 && time < 256
                : what >= 0 && what <= 2 && day >= 0 && day < 65536 && time >= 0 && time < 65536;
        if (!inRange || what == 1 && time != 0) {
            throw new IllegalArgumentException();
        }
        if (what == 4) {
            disk[at + 11] = (byte) (disk[at + 11] & ~1 | time);
        } else if (what == 3) {
            disk[at + 13] = (byte) time;
        } else if (what == 1) {
            put(disk, at + 18, 2, day);
        } else {
            put(disk, at + (what == 0 ? 16 : 24), 2, day);
            put(disk, at + (what == 0 ? 14 : 22), 2, time);
        }
        if (fault() != 0) {
            disk = was;
            throw new IllegalArgumentException();
        }
    }

    Layout planned(int p) {
        return layout(new Volume(disk, n).readTree(), p);
    }

    int plan(int p, int what) {
        if (kind() != 1 || what < 0 || what > 6) {
            return NONE;
        }
        try {
            Layout l = planned(p);
            int freeBlocks = l.b - 1 - l.used.cardinality();
            return new int[] {0, l.q, l.g, l.fixed.cardinality(), l.moves.size(), l.built, freeBlocks}[what];
        } catch (Bad e) {
            return what == 0 ? e.code : NONE;
        }
    }

    int target(int p, int cluster) {
        if (kind() != 1) {
            return NONE;
        }
        try {
            Layout l = planned(p);
            return cluster < 2 || cluster > new Volume(disk, n).k + 1 ? NONE : l.moves.getOrDefault(cluster, 0);
        } catch (Bad e) {
            return NONE;
        }
    }

    boolean fail(int ask, int writes) {
        if (ask < 0 || ask > 1 || writes < 0 || failCount == 16) {
            return false;
        }
        failCount++;
        return true;
    }

    /** What the power does to the runs before must not show in what the last one leaves. */
    int run(int ask, int p) {
        failCount = 0;
        if (kind() == 0) {
            throw new IllegalStateException();
        }
        if (ask != 0 && ask != 1) {
            throw new IllegalArgumentException();
        }
        pokeable = false;
        herePath.clear();
        if (ask == 0 && turned == null) {
            try {
                Volume t = new Volume(disk, n).readTree();
                turnedLayout = layout(t, p);
                turned = t;
                old = disk;
                disk = turnedLayout.image;
            } catch (Bad e) {
                return e.code;
            }
        } else if (ask == 1 && turned != null) {
            disk = old;
            turned = null;
        }
        return 0;
    }
}
