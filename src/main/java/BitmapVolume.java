import java.util.Arrays;

/** A volume of files in the form of exFAT, made small. The document numbers its promises 1 to 25. */
public final class BitmapVolume {
    public static final int BAD = -1, STATE = -2, NAME = -3, THERE = -4, BARRED = -5, FULL = -6, OFF = -7, NONE = -9;

    private static final int SECTORS = 216;
    private static final int SECTOR = 64;
    private static final int CLUSTER = 128;
    private static final int LEAST_CLUSTERS = 16;
    private static final int MOST_CLUSTERS = 100;
    /** One more than the greatest number that a CLUSTER can have. */
    private static final int NUMBERS = MOST_CLUSTERS + 2;

    /** Addresses, in OCTETS from the disk's begin. */
    private static final int REGION = 4 * SECTOR;
    private static final int FAT = 8 * SECTOR;
    private static final int HEAP = 16 * SECTOR;
    private static final int FLAGS = 44;
    private static final int PERCENT = 49;
    private static final int FAT_FIRST_SECTOR = 8;
    private static final int FAT_LAST_SECTOR = 14;

    private static final int DIRTY = 2;
    private static final int PERCENT_UNKNOWN = 255;
    private static final int FAT_OF_0 = -8;
    private static final int END = -1;
    private static final int OWN_LETTERS = 65535;

    private static final int ENTRY = 32;
    private static final int BITMAP_TYPE = 129;
    private static final int CASES_TYPE = 130;
    private static final int FILE_TYPE = 133;
    private static final int STREAM_TYPE = 192;
    private static final int NAME_TYPE = 193;
    private static final int IN_USE = 128;
    private static final int READ_ONLY = 1;
    private static final int IS_DIRECTORY = 16;
    private static final int MOST_LETTERS = 30;
    private static final int MOST_WRITTEN = 1024;
    private static final int MOST_FAIL = 1000;
    private static final int ROOT = 0;

    private final Disk disk;
    private final Boot boot;
    private final Space space;
    private final Sets sets;
    private final Check check;
    private final Tree tree;
    private final Acts acts;
    private final Name draft;
    private boolean mounted;

    public BitmapVolume() {
        Disk newDisk = new Disk();
        Boot newBoot = new Boot(newDisk);
        Space newSpace = new Space(newDisk);
        Cases newCases = new Cases(newDisk);
        Sets newSets = new Sets(newDisk, newCases);
        Tree newTree = new Tree(newDisk, newSpace, newSets);
        disk = newDisk;
        boot = newBoot;
        space = newSpace;
        sets = newSets;
        tree = newTree;
        check = new Check(newDisk, newBoot, newSpace, newSets, newCases, newTree);
        acts = new Acts(newDisk, newSpace, newSets, newTree);
        draft = new Name();
    }

    // ---- the disk

    public int format(int n, int serial) {
        if (mounted) return STATE;
        if (n < LEAST_CLUSTERS || n > MOST_CLUSTERS) return BAD;
        disk.wipe();
        boot.draw(n, 4, serial, 0, PERCENT_UNKNOWN);
        boot.lay(0);
        boot.lay(REGION);
        disk.put4(FAT, FAT_OF_0);
        for (int c = 1; c <= 4; c++) disk.put4(FAT + 4 * c, END);
        disk.put(Space.address(2), 7);
        int octets = Cases.layUsual(disk, Space.address(3));
        int root = Space.address(4);
        disk.put(root, BITMAP_TYPE);
        disk.put4(root + 20, 2);
        disk.put4(root + 24, (n + 7) / 8);
        disk.put(root + ENTRY, CASES_TYPE);
        disk.put4(root + ENTRY + 4, Cases.sum(disk, Space.address(3), octets));
        disk.put4(root + ENTRY + 20, 3);
        disk.put4(root + ENTRY + 24, octets);
        disk.settle();
        return 16 + 2 * n;
    }

    public int octet(int sector, int i) {
        return Disk.isOctet(sector, i) ? disk.get(sector * SECTOR + i) : BAD;
    }

    public int spoil(int sector, int i, int v) {
        if (mounted) return STATE;
        if (!Disk.isOctet(sector, i) || v < 0 || v > 255) return BAD;
        int was = disk.get(sector * SECTOR + i);
        disk.put(sector * SECTOR + i, v);
        disk.settle();
        return was;
    }

    public int fail(int m) {
        if (m < 0 || m > MOST_FAIL) return BAD;
        disk.failsIn = m;
        return 1;
    }

    // ---- mounting, mending

    public int mount() {
        if (mounted) return STATE;
        int number = check.askBase();
        if (number == 0) number = check.askTree(false);
        if (number == 0) number = check.askBitmap();
        if (number != 0) return -10 - number;
        mounted = true;
        tree.index();
        return check.bySecond ? 2 : 1;
    }

    public int fault(int what) {
        switch (what) {
            case 0: return check.faultNumber;
            case 1: return check.faultCluster;
            case 2: return check.faultEntry;
            default: return BAD;
        }
    }

    public int unmount() {
        if (!mounted) return STATE;
        mounted = false;
        disk.put(FLAGS, disk.get(FLAGS) & ~DIRTY);
        disk.put(PERCENT, space.percent());
        return disk.flush() ? 1 : OFF;
    }

    public int mend() {
        if (mounted) return STATE;
        int number = check.askBase();
        if (number != 0) return -10 - number;
        if (!check.mendBoot()) return OFF;
        check.askTree(true);
        return check.mendRest() ? check.mended : OFF;
    }

    // ---- names

    public int letters(long w) {
        return draft.append(w) ? draft.size : BAD;
    }

    public int clear() {
        int had = draft.size;
        draft.size = 0;
        return had;
    }

    public void clock(int t) {
        acts.time = t;
    }

    public int look(int directory) {
        int answer = STATE;
        if (mounted) {
            if (!tree.isDirectory(directory)) answer = BAD;
            else if (!draft.isRight()) answer = NAME;
            else answer = tree.find(directory, draft);
        }
        draft.size = 0;
        return answer;
    }

    public int list(int directory, int i) {
        if (!mounted) return STATE;
        return tree.isDirectory(directory) ? tree.child(directory, i) : BAD;
    }

    // ---- acts

    public int make(int directory, boolean isDirectory) {
        int answer = mounted ? acts.create(directory, draft, isDirectory) : STATE;
        draft.size = 0;
        return settled(answer);
    }

    public int write(int file, int at, int n, int v) {
        return mounted ? settled(acts.fill(file, at, n, v)) : STATE;
    }

    public int cut(int file, int n) {
        return mounted ? settled(acts.shorten(file, n)) : STATE;
    }

    public int drop(int place) {
        return mounted ? settled(acts.remove(place)) : STATE;
    }

    public int move(int place, int directory) {
        int answer = mounted ? acts.rename(place, directory, draft) : STATE;
        draft.size = 0;
        return settled(answer);
    }

    public int bar(int place, boolean is) {
        return mounted ? settled(acts.protect(place, is)) : STATE;
    }

    // ---- what there is

    public long read(int file, int at) {
        return mounted && tree.isFile(file) ? tree.octets(file, at) : 0;
    }

    public int told(int place, int what) {
        if (!mounted) return STATE;
        if (!tree.isPlace(place) || what < 0 || what > 8) return BAD;
        if (place == ROOT) return tree.rootTells(what);
        return sets.tells(Tree.headOf(place), what);
    }

    public int letter(int place, int i) {
        if (!mounted) return STATE;
        if (!tree.isEntry(place)) return BAD;
        if (i < 0 || i >= sets.nameSize(Tree.headOf(place))) return BAD;
        return sets.letterAt(tree.tailOf(place), i);
    }

    public int cluster(int place, int i) {
        if (!mounted) return STATE;
        return tree.isPlace(place) ? tree.clusterOf(place, i) : BAD;
    }

    public int count(int what) {
        if (what < 0 || what > 5) return BAD;
        if (what == 4) return disk.written;
        if (what == 5) return mounted ? 1 : 0;
        if (!mounted) return STATE;
        switch (what) {
            case 0: return space.n;
            case 1: return space.freeOnes();
            case 2: return space.longestRow();
            default: return (disk.get(FLAGS) & DIRTY) != 0 ? 1 : 0;
        }
    }

    /** A call in which power failed leaves the volume not mounted. */
    private int settled(int answer) {
        if (answer == OFF) mounted = false;
        return answer;
    }

    /** The SECTORS, and beside them what the running PHASE wants them to be. */
    private static final class Disk {
        private final int[] now = new int[SECTORS * SECTOR];
        private final int[] next = new int[SECTORS * SECTOR];
        private final boolean[] touched = new boolean[SECTORS];
        private int failsIn;
        private int written;

        static boolean isOctet(int sector, int i) {
            return sector >= 0 && sector < SECTORS && i >= 0 && i < SECTOR;
        }

        /** Reads what is wanted: between two PHASES that is what is on the disk. */
        int get(int a) {
            return a >= 0 && a < next.length ? next[a] : 0;
        }

        int get2(int a) {
            return a >= 0 && a < next.length - 1 ? next[a] | next[a + 1] << 8 : 0;
        }

        int get4(int a) {
            if (a < 0 || a >= next.length - 3) return 0;
            return next[a] | next[a + 1] << 8 | next[a + 2] << 16 | next[a + 3] << 24;
        }

        void put(int a, int v) {
            if (a >= 0 && a < next.length) {
                next[a] = v & 255;
                touched[a / SECTOR] = true;
            }
        }

        void put2(int a, int v) {
            put(a, v);
            put(a + 1, v >>> 8);
        }

        void put4(int a, int v) {
            for (int i = 0; i < 4; i++) put(a + i, v >>> 8 * i);
        }

        void blank(int a, int octets) {
            for (int i = 0; i < octets; i++) put(a + i, 0);
        }

        boolean isBlank(int from, int to) {
            for (int a = from; a < to; a++) {
                if (get(a) != 0) return false;
            }
            return true;
        }

        void wipe() {
            Arrays.fill(next, 0);
            for (int s = 0; s < SECTORS; s++) touched[s] = true;
        }

        /** What is wanted is there at once, and does not count as WRITTEN. */
        void settle() {
            for (int s = 0; s < SECTORS; s++) {
                if (touched[s]) System.arraycopy(next, s * SECTOR, now, s * SECTOR, SECTOR);
                touched[s] = false;
            }
        }

        /** Ends a PHASE: false if power failed in it. */
        boolean flush() {
            return flush(0, SECTORS - 1);
        }

        boolean flush(int first, int last) {
            for (int s = Math.max(first, 0); s <= last && s < SECTORS; s++) {
                if (touched[s] && differs(s)) {
                    if (failsIn == 1) {
                        forget();
                        return false;
                    }
                    if (failsIn > 0) failsIn--;
                    System.arraycopy(next, s * SECTOR, now, s * SECTOR, SECTOR);
                    written++;
                }
                touched[s] = false;
            }
            return true;
        }

        private boolean differs(int sector) {
            for (int a = sector * SECTOR; a < (sector + 1) * SECTOR && a < next.length; a++) {
                if (next[a] != now[a]) return true;
            }
            return false;
        }

        private void forget() {
            failsIn = 0;
            for (int s = 0; s < SECTORS; s++) {
                if (touched[s]) System.arraycopy(now, s * SECTOR, next, s * SECTOR, SECTOR);
                touched[s] = false;
            }
        }
    }

    /** BOOT REGIONS, drawn whole so that laying and asking share one form. */
    private static final class Boot {
        private final Disk disk;
        private final int[] image = new int[REGION];

        Boot(Disk disk) {
            this.disk = disk;
        }

        void draw(int n, int root, int serial, int flags, int percent) {
            Arrays.fill(image, 0);
            for (int s = 0; s < 3; s++) {
                image[s * SECTOR + 62] = 85;
                image[s * SECTOR + 63] = 170;
            }
            draw4(0, 235 | 118 << 8 | 144 << 16 | 69 << 24);
            draw4(4, 88 | 70 << 8 | 65 << 16 | 84 << 24);
            draw4(8, 32 | 32 << 8 | 32 << 16);
            draw4(16, 16 + 2 * n);
            draw4(20, 8);
            draw4(24, 7);
            draw4(28, 16);
            draw4(32, n);
            draw4(36, root);
            draw4(40, serial);
            image[FLAGS] = flags;
            image[46] = 6;
            image[47] = 1;
            image[48] = 1;
            image[PERCENT] = percent;
            int sum = sumOfThree();
            for (int i = 0; i < SECTOR; i += 4) draw4(3 * SECTOR + i, sum);
        }

        private void draw4(int at, int v) {
            for (int i = 0; i < 4 && at + i < image.length; i++) image[at + i] = v >>> 8 * i & 255;
        }

        private int sumOfThree() {
            int s = 0;
            for (int i = 0; i < 3 * SECTOR; i++) {
                if (i != FLAGS && i != FLAGS + 1 && i != PERCENT) s = (s >>> 1 | s << 31) + image[i];
            }
            return s;
        }

        void lay(int at) {
            for (int i = 0; i < image.length; i++) disk.put(at + i, image[i]);
        }

        boolean isRight(int at) {
            int n = disk.get4(at + 32);
            if (n < LEAST_CLUSTERS || n > MOST_CLUSTERS) return false;
            int root = disk.get4(at + 36);
            if (root < 2 || root > n + 1) return false;
            int flags = disk.get2(at + FLAGS);
            if (flags != 0 && flags != DIRTY) return false;
            int percent = disk.get(at + PERCENT);
            if (percent > 100 && percent != PERCENT_UNKNOWN) return false;
            draw(n, root, disk.get4(at + 40), flags, percent);
            for (int i = 0; i < image.length; i++) {
                if (disk.get(at + i) != image[i]) return false;
            }
            return true;
        }
    }

    /** The CLUSTERS: their FAT and the BITMAP. */
    private static final class Space {
        private final Disk disk;
        private int n;
        private int root;
        private int bitmap;
        /** A CLUSTER that the running call has promised already; 0: none. */
        private int promised;

        Space(Disk disk) {
            this.disk = disk;
        }

        static int address(int c) {
            return HEAP + CLUSTER * (c - 2);
        }

        boolean isCluster(int c) {
            return c >= 2 && c <= n + 1;
        }

        int fat(int c) {
            return disk.get4(FAT + 4 * c);
        }

        void setFat(int c, int v) {
            if (isCluster(c)) disk.put4(FAT + 4 * c, v);
        }

        boolean isTaken(int c) {
            return (disk.get(address(bitmap) + (c - 2) / 8) >> (c - 2) % 8 & 1) != 0;
        }

        void setTaken(int c, boolean is) {
            if (!isCluster(c)) return;
            int a = address(bitmap) + (c - 2) / 8;
            int bit = 1 << (c - 2) % 8;
            disk.put(a, is ? disk.get(a) | bit : disk.get(a) & ~bit);
        }

        boolean isFree(int c) {
            return isCluster(c) && c != promised && !isTaken(c);
        }

        int firstFree() {
            return firstRow(1);
        }

        boolean isFreeRow(int first, int k) {
            for (int i = 0; i < k; i++) {
                if (!isFree(first + i)) return false;
            }
            return true;
        }

        /** The first of the first k free CLUSTERS in a row; 0: there are none. */
        int firstRow(int k) {
            int length = 0;
            for (int c = 2; c <= n + 1; c++) {
                length = isFree(c) ? length + 1 : 0;
                if (length == k) return c - k + 1;
            }
            return 0;
        }

        int freeOnes() {
            int free = 0;
            for (int c = 2; c <= n + 1; c++) {
                if (!isTaken(c)) free++;
            }
            return free;
        }

        int longestRow() {
            int longest = 0;
            int length = 0;
            for (int c = 2; c <= n + 1; c++) {
                length = isTaken(c) ? 0 : length + 1;
                longest = Math.max(longest, length);
            }
            return longest;
        }

        int percent() {
            return n > 0 ? 100 * (n - freeOnes()) / n : 0;
        }
    }

    /** CLUSTERS of one file or DIRECTORY, in order. */
    private static final class Chain {
        private static final int WHOLE = 0, BROKEN = 1, OPEN = 2;
        private final int[] row = new int[NUMBERS];
        private int size;

        void add(int c) {
            if (size < row.length) row[size++] = c;
        }

        int at(int i) {
            return i >= 0 && i < size && i < row.length ? row[i] : 0;
        }

        int last() {
            return at(size - 1);
        }

        /** OPEN: as many CLUSTERS as there have to be, but no END behind them. */
        int trace(Space space, int first, boolean isRun, int k) {
            size = 0;
            int c = first;
            for (int i = 0; i < k; i++) {
                if (!space.isCluster(c)) return BROKEN;
                add(c);
                c = isRun ? c + 1 : space.fat(c);
            }
            return isRun || k == 0 || c == END ? WHOLE : OPEN;
        }

        /** ROOT has no LENGTH, just its END. */
        void traceToEnd(Space space, int first) {
            size = 0;
            int c = first;
            for (int i = 0; i < NUMBERS && space.isCluster(c); i++) {
                add(c);
                c = space.fat(c);
            }
        }

        boolean hasTwice() {
            for (int i = 0; i < size; i++) {
                for (int j = 0; j < i; j++) {
                    if (at(i) == at(j)) return true;
                }
            }
            return false;
        }

        int places() {
            return 4 * size;
        }

        /** The address of the ENTRY at a place of a DIRECTORY; -1: it has no such place. */
        int entry(int p) {
            return p >= 0 && p < places() ? Space.address(at(p / 4)) + ENTRY * (p % 4) : -1;
        }
    }

    /** Letters: THE DRAFT, or the NAME of a SET. */
    private static final class Name {
        private final int[] row = new int[MOST_LETTERS];
        private int size;

        int at(int i) {
            return i >= 0 && i < size && i < row.length ? row[i] : 0;
        }

        boolean append(long w) {
            int more = 0;
            for (int i = 0; i < 4; i++) {
                if ((w >>> 16 * i & 65535) != 0) more++;
            }
            if (size + more > row.length) return false;
            for (int i = 0; i < 4; i++) {
                add((int) (w >>> 16 * i & 65535));
            }
            return true;
        }

        private void add(int v) {
            if (v != 0 && size < row.length) row[size++] = v;
        }

        boolean isRight() {
            if (size < 1) return false;
            for (int i = 0; i < size; i++) {
                if (!isLetter(at(i))) return false;
            }
            return at(size - 1) != ' ' && at(size - 1) != '.';
        }

        private static boolean isLetter(int v) {
            switch (v) {
                case '"': case '*': case '/': case ':': case '<': case '>': case '?': case '\\': case '|':
                    return false;
                default:
                    return v >= 32 && v <= 126 || v >= 160 && v <= 255;
            }
        }

        static int entriesOf(int letters) {
            return 2 + (letters + 14) / 15;
        }
    }

    /** The table of great letters. */
    private static final class Cases {
        private final Disk disk;
        private final int[] great = new int[256];

        Cases(Disk disk) {
            this.disk = disk;
        }

        /** Takes the table into use; false: it is not right. */
        boolean learn(int a, int octets) {
            for (int i = 0; i < great.length; i++) great[i] = i;
            int told = 0;
            for (int i = 0; i < octets; i += 2) {
                int v = disk.get2(a + i);
                if (v == OWN_LETTERS) {
                    i += 2;
                    if (i >= octets) return false;
                    told += disk.get2(a + i);
                } else {
                    if (v > 255 || told >= great.length) return false;
                    great[told++] = v;
                }
                if (told > great.length) return false;
            }
            for (int i = 0; i < great.length; i++) {
                if (greatOf(great[i]) != great[i]) return false;
            }
            return true;
        }

        int greatOf(int letter) {
            return letter >= 0 && letter < great.length ? great[letter] : letter;
        }

        int hash(Name name) {
            int s = 0;
            for (int i = 0; i < name.size; i++) {
                int g = greatOf(name.at(i));
                s = Sets.roll(Sets.roll(s, g & 255), g >>> 8);
            }
            return s;
        }

        static int sum(Disk disk, int a, int octets) {
            int s = 0;
            for (int i = 0; i < octets; i++) s = (s >>> 1 | s << 31) + disk.get(a + i);
            return s;
        }

        /** The table of format(): how many OCTETS it has. */
        static int layUsual(Disk disk, int a) {
            int end = layOwn(disk, a, 97);
            end = layGreat(disk, end, 'a', 'z');
            end = layOwn(disk, end, 101);
            end = layGreat(disk, end, 224, 246);
            end = layOwn(disk, end, 1);
            end = layGreat(disk, end, 248, 254);
            return layOwn(disk, end, 1) - a;
        }

        private static int layOwn(Disk disk, int a, int letters) {
            disk.put2(a, OWN_LETTERS);
            disk.put2(a + 2, letters);
            return a + 4;
        }

        private static int layGreat(Disk disk, int a, int first, int last) {
            for (int v = first; v <= last; v++) disk.put2(a + 2 * (v - first), v - 32);
            return a + 2 * (last - first + 1);
        }
    }

    /**
     * SETS of ENTRIES. As a FILE stands at an even place, FILE and STREAM are one SECTOR (the head),
     * and the NAMES lie in the DIRECTORY's next one (the tail).
     */
    private static final class Sets {
        /** Offsets from the head; STREAM's are 32 more than its own. */
        private static final int FOLLOWING = 1, SUM = 2, ATTRIBUTES = 4, MADE = 8, CHANGED = 12;
        private static final int RUN = 33, NAME_SIZE = 35, HASH = 36, LENGTH_AGAIN = 40, FIRST = 52, LENGTH = 56;

        private final Disk disk;
        private final Cases cases;

        Sets(Disk disk, Cases cases) {
            this.disk = disk;
            this.cases = cases;
        }

        static int roll(int s, int octet) {
            return ((s & 1) << 15) + (s >> 1) + octet & 65535;
        }

        int entries(int head) {
            return 1 + disk.get(head + FOLLOWING);
        }

        int attributes(int head) {
            return disk.get2(head + ATTRIBUTES);
        }

        boolean isDirectory(int head) {
            return (disk.get2(head + ATTRIBUTES) & IS_DIRECTORY) != 0;
        }

        boolean isReadOnly(int head) {
            return (disk.get2(head + ATTRIBUTES) & READ_ONLY) != 0;
        }

        boolean isRun(int head) {
            return disk.get(head + RUN) == 3;
        }

        int nameSize(int head) {
            return disk.get(head + NAME_SIZE);
        }

        int first(int head) {
            return disk.get4(head + FIRST);
        }

        int length(int head) {
            return disk.get4(head + LENGTH);
        }

        int clusters(int head) {
            return (length(head) + CLUSTER - 1) / CLUSTER;
        }

        int letterAt(int tail, int i) {
            return disk.get2(letterAddress(tail, i));
        }

        private static int letterAddress(int tail, int i) {
            return tail + 2 * i + (i < 15 ? 2 : 4);
        }

        int tells(int head, int what) {
            switch (what) {
                case 0: return attributes(head);
                case 1: return length(head);
                case 2: return first(head);
                case 3: return isRun(head) ? 1 : 0;
                case 4: return nameSize(head);
                case 5: return disk.get2(head + HASH);
                case 6: return disk.get2(head + SUM);
                case 7: return disk.get4(head + MADE);
                default: return disk.get4(head + CHANGED);
            }
        }

        int sum(int head, int tail) {
            int s = 0;
            for (int i = 0; i < 2 * ENTRY; i++) {
                if (i != 2 && i != 3) s = roll(s, disk.get(head + i));
            }
            for (int i = 0; i < ENTRY * (entries(head) - 2); i++) s = roll(s, disk.get(tail + i));
            return s;
        }

        void readName(Name name, int head, int tail) {
            int letters = Math.min(disk.get(head + NAME_SIZE), MOST_LETTERS);
            for (int i = 0; i < letters; i++) name.row[i] = disk.get2(letterAddress(tail, i));
            name.size = letters;
        }

        boolean isLike(Name name, int head, int tail) {
            if (name.size != disk.get(head + NAME_SIZE)) return false;
            for (int i = 0; i < name.size; i++) {
                if (cases.greatOf(name.at(i)) != cases.greatOf(disk.get2(letterAddress(tail, i)))) return false;
            }
            return true;
        }

        /** Whether a SET that is right by itself begins at the head; room: how many ENTRIES there are from it on. */
        boolean isRight(int head, int tail, int room, int n, Name name) {
            if (disk.get(head) != FILE_TYPE || entries(head) > room) return false;
            if ((attributes(head) & ~(READ_ONLY | IS_DIRECTORY)) != 0) return false;
            if (!disk.isBlank(head + 6, head + 8) || !disk.isBlank(head + 16, head + ENTRY)) return false;
            return isRightStream(head) && isRightLength(head, n) && isRightName(head, tail, name)
                && sum(head, tail) == disk.get2(head + SUM);
        }

        private boolean isRightStream(int head) {
            int stream = head + ENTRY;
            if (disk.get(stream) != STREAM_TYPE) return false;
            if (disk.get(stream + 1) != 1 && disk.get(stream + 1) != 3) return false;
            return disk.get(stream + 2) == 0 && disk.isBlank(stream + 6, stream + 8)
                && disk.isBlank(stream + 16, stream + 20);
        }

        private boolean isRightLength(int head, int n) {
            int length = length(head);
            if (length < 0 || length > CLUSTER * n || disk.get4(head + LENGTH_AGAIN) != length) return false;
            if (disk.get4(head + LENGTH + 4) != 0 || disk.get4(head + LENGTH_AGAIN + 4) != 0) return false;
            if (isDirectory(head) && (length == 0 || length % CLUSTER != 0)) return false;
            if (length == 0) return first(head) == 0 && !isRun(head);
            return first(head) >= 2 && first(head) <= n + 1;
        }

        private boolean isRightName(int head, int tail, Name name) {
            int size = nameSize(head);
            if (size > MOST_LETTERS || entries(head) != Name.entriesOf(size)) return false;
            readName(name, head, tail);
            if (!name.isRight() || cases.hash(name) != disk.get2(head + HASH)) return false;
            for (int i = 0; i < entries(head) - 2; i++) {
                if (disk.get(tail + ENTRY * i) != NAME_TYPE || disk.get(tail + ENTRY * i + 1) != 0) return false;
            }
            for (int i = size; i < 15 * (entries(head) - 2); i++) {
                if (letterAt(tail, i) != 0) return false;
            }
            return true;
        }

        /** A SET with a NAME and nothing else; seal() comes last. */
        void begin(int head, int tail, Name name) {
            int names = Name.entriesOf(name.size) - 2;
            disk.blank(head, 2 * ENTRY);
            disk.blank(tail, names * ENTRY);
            disk.put(head, FILE_TYPE);
            disk.put(head + FOLLOWING, 1 + names);
            disk.put(head + ENTRY, STREAM_TYPE);
            disk.put(head + RUN, 1);
            disk.put(head + NAME_SIZE, name.size);
            disk.put2(head + HASH, cases.hash(name));
            for (int i = 0; i < names; i++) disk.put(tail + ENTRY * i, NAME_TYPE);
            for (int i = 0; i < name.size; i++) disk.put2(letterAddress(tail, i), name.at(i));
        }

        void setAttributes(int head, int attributes) {
            disk.put2(head + ATTRIBUTES, attributes);
        }

        void setMade(int head, int time) {
            disk.put4(head + MADE, time);
        }

        void setChanged(int head, int time) {
            disk.put4(head + CHANGED, time);
        }

        void setStream(int head, boolean isRun, int first, int length) {
            disk.put(head + RUN, isRun ? 3 : 1);
            disk.put4(head + LENGTH_AGAIN, length);
            disk.put4(head + FIRST, first);
            disk.put4(head + LENGTH, length);
        }

        /** What a new SET of the same file has as the old one: all but its NAME. */
        void copyBody(int head, int from) {
            setAttributes(head, attributes(from));
            setMade(head, disk.get4(from + MADE));
            setChanged(head, disk.get4(from + CHANGED));
            setStream(head, isRun(from), first(from), length(from));
        }

        void seal(int head, int tail) {
            disk.put2(head + SUM, sum(head, tail));
        }

        void unuse(int head, int tail) {
            int names = entries(head) - 2;
            unuseEntry(head);
            unuseEntry(head + ENTRY);
            for (int i = 0; i < names; i++) unuseEntry(tail + ENTRY * i);
        }

        /** TYPE 128 becomes 1, as a 0 would end the DIRECTORY. */
        void unuseEntry(int a) {
            disk.put(a, Math.max(disk.get(a) - IN_USE, 1));
        }
    }

    /** The questions of mounting, and mending. */
    private static final class Check {
        private final Disk disk;
        private final Boot boot;
        private final Space space;
        private final Sets sets;
        private final Cases cases;
        private final Tree tree;
        private final Chain dir = new Chain();
        private final Chain own = new Chain();
        private final Name name = new Name();
        private final boolean[] met = new boolean[NUMBERS];
        /** PLACES of the DIRECTORIES that were met. */
        private final int[] queue = new int[NUMBERS];
        private int queued;
        private boolean mends;
        private int mended;
        private boolean bySecond;
        /** The latest FAULT and its place. */
        private int faultNumber;
        private int faultCluster;
        private int faultEntry;

        Check(Disk disk, Boot boot, Space space, Sets sets, Cases cases, Tree tree) {
            this.disk = disk;
            this.boot = boot;
            this.space = space;
            this.sets = sets;
            this.cases = cases;
            this.tree = tree;
        }

        private int found(int number, int inCluster, int entry) {
            faultNumber = number;
            faultCluster = inCluster;
            faultEntry = entry;
            return number;
        }

        /** Questions 1 to 4: the FAULT, or 0. */
        int askBase() {
            boolean byFirst = boot.isRight(0);
            if (!byFirst && !boot.isRight(REGION)) return found(1, 0, 0);
            bySecond = !byFirst;
            int at = byFirst ? 0 : REGION;
            space.n = disk.get4(at + 32);
            space.root = disk.get4(at + 36);
            if (space.fat(0) != FAT_OF_0) return found(2, 0, 0);
            if (space.fat(1) != END) return found(2, 1, 0);
            int broken = meetRoot();
            if (broken != 0) return found(3, broken, 0);
            if (!meetBitmap(Space.address(space.root))) return found(4, space.root, 0);
            if (!meetCases(Space.address(space.root) + ENTRY)) return found(4, space.root, 1);
            return 0;
        }

        /** The CLUSTER whose FAT is not so, or 0. */
        private int meetRoot() {
            for (int i = 0; i < met.length; i++) met[i] = false;
            int c = space.root;
            for (int i = 0; i < NUMBERS; i++) {
                meet(c);
                int behind = space.fat(c);
                if (behind == END) return 0;
                if (!space.isCluster(behind) || isMet(behind)) return c;
                c = behind;
            }
            return c;
        }

        private void meet(int c) {
            if (c >= 0 && c < met.length) met[c] = true;
        }

        private boolean isMet(int c) {
            return c >= 0 && c < met.length && met[c];
        }

        private boolean meetSingle(int c) {
            if (!space.isCluster(c) || isMet(c) || space.fat(c) != END) return false;
            meet(c);
            return true;
        }

        private boolean meetBitmap(int a) {
            if (disk.get(a) != BITMAP_TYPE || !disk.isBlank(a + 1, a + 20)) return false;
            if (disk.get4(a + 24) != (space.n + 7) / 8 || !disk.isBlank(a + 28, a + ENTRY)) return false;
            space.bitmap = disk.get4(a + 20);
            return meetSingle(space.bitmap);
        }

        private boolean meetCases(int a) {
            if (disk.get(a) != CASES_TYPE || !disk.isBlank(a + 1, a + 4) || !disk.isBlank(a + 8, a + 20)) return false;
            int octets = disk.get4(a + 24);
            if (octets < 2 || octets > CLUSTER || octets % 2 != 0 || !disk.isBlank(a + 28, a + ENTRY)) return false;
            int c = disk.get4(a + 20);
            if (!meetSingle(c)) return false;
            if (Cases.sum(disk, Space.address(c), octets) != disk.get4(a + 4)) return false;
            return cases.learn(Space.address(c), octets);
        }

        /** Question 9, behind the others: the FAULT, or 0. */
        int askBitmap() {
            return isRightBitmap() ? 0 : found(9, 0, 0);
        }

        /** THE SECOND, if it is used, goes to the first region: false if power failed. */
        boolean mendBoot() {
            for (int i = 0; i < REGION && bySecond; i++) disk.put(i, disk.get(REGION + i));
            return disk.flush();
        }

        /** PHASES T and E of what askTree() mended, then B: false if power failed. */
        boolean mendRest() {
            if (!disk.flush(FAT_FIRST_SECTOR, FAT_LAST_SECTOR) || !disk.flush()) return false;
            if (!isRightBitmap()) {
                mended++;
                layBitmap();
            }
            return disk.flush();
        }

        /** Questions 5 to 8, behind askBase(): the FAULT, or 0. Mending, it meets none, and nothing is WRITTEN yet. */
        int askTree(boolean isMending) {
            mends = isMending;
            mended = 0;
            queue[0] = ROOT;
            queued = 1;
            for (int i = 0; i < queued && i < queue.length; i++) {
                if (!askDirectory(queue[i])) return faultNumber;
            }
            return 0;
        }

        private boolean askDirectory(int place) {
            tree.open(place, dir);
            boolean isOver = false;
            int passed = place == ROOT ? 2 : 0;
            for (int p = passed; p < dir.places(); p++) {
                if (p < passed) continue;
                passed = p + 1;
                int type = disk.get(dir.entry(p));
                if (isOver && type != 0) {
                    if (!strike(p, 5)) return false;
                    disk.put(dir.entry(p), 0);
                } else if (type >= IN_USE) {
                    passed = p + meetSet(p);
                    if (passed == p) return false;
                }
                isOver = isOver || type == 0;
            }
            return true;
        }

        /** Something is not so at a place of the DIRECTORY: true if it is mended, else it is the FAULT. */
        private boolean strike(int p, int fault) {
            if (mends) mended++;
            else found(fault, dir.at(p / 4), p % 4);
            return mends;
        }

        /** How many ENTRIES are done with; 0: there is a FAULT. */
        private int meetSet(int p) {
            int head = dir.entry(p);
            int tail = dir.entry(p + 2);
            if (p % 2 != 0 || !sets.isRight(head, tail, dir.places() - p, space.n, name)) {
                if (!strike(p, 5)) return 0;
                sets.unuseEntry(head);
                return 1;
            }
            int entries = sets.entries(head);
            int state = own.trace(space, sets.first(head), sets.isRun(head), sets.clusters(head));
            int fault = faultOf(p, state);
            if (fault != 0) {
                if (!strike(p, fault)) return 0;
                sets.unuse(head, tail);
                return entries;
            }
            if (state == Chain.OPEN) {
                mended++;
                space.setFat(own.last(), END);
            }
            for (int i = 0; i < own.size; i++) meet(own.at(i));
            if (sets.isDirectory(head) && queued < queue.length) queue[queued++] = Tree.placeOf(head);
            return entries;
        }

        /** Questions 6 to 8 of the SET at p, once traced: mending lets a chain pass that just lacks its END. */
        private int faultOf(int p, int state) {
            if (state == Chain.BROKEN || state == Chain.OPEN && !mends) return 6;
            for (int i = 0; i < own.size; i++) {
                if (isMet(own.at(i))) return 7;
            }
            if (state == Chain.OPEN && own.hasTwice()) return 7;
            return hasLikeBefore(p) ? 8 : 0;
        }

        private boolean hasLikeBefore(int p) {
            for (int q = 0; q < p; q += 2) {
                int head = dir.entry(q);
                if (disk.get(head) == FILE_TYPE && sets.isLike(name, head, dir.entry(q + 2))) return true;
            }
            return false;
        }

        private int bitmapOctet(int i) {
            int v = 0;
            for (int bit = 0; bit < 8; bit++) {
                int c = 8 * i + bit + 2;
                if (space.isCluster(c) && isMet(c)) v |= 1 << bit;
            }
            return v;
        }

        private boolean isRightBitmap() {
            for (int i = 0; i < (space.n + 7) / 8; i++) {
                if (disk.get(Space.address(space.bitmap) + i) != bitmapOctet(i)) return false;
            }
            return true;
        }

        private void layBitmap() {
            for (int i = 0; i < (space.n + 7) / 8; i++) disk.put(Space.address(space.bitmap) + i, bitmapOctet(i));
        }
    }

    /** The PLACES of a mounted volume. */
    private static final class Tree {
        private final Disk disk;
        private final Space space;
        private final Sets sets;
        /** Of each CLUSTER the PLACE of the DIRECTORY that it belongs to; -1: of none. */
        private final int[] holder = new int[NUMBERS];
        /** Of each CLUSTER of a DIRECTORY the one behind it; 0: none. */
        private final int[] behind = new int[NUMBERS];
        private final int[] queue = new int[NUMBERS];
        private int queued;
        private final Chain chain = new Chain();

        Tree(Disk disk, Space space, Sets sets) {
            this.disk = disk;
            this.space = space;
            this.sets = sets;
        }

        static int headOf(int place) {
            return HEAP - 2 * CLUSTER + ENTRY * place;
        }

        static int placeOf(int head) {
            return (head - HEAP + 2 * CLUSTER) / ENTRY;
        }

        int tailOf(int place) {
            int c = place >> 2;
            if ((place & 3) == 0) return headOf(place) + 2 * ENTRY;
            return c >= 0 && c < behind.length ? Space.address(behind[c]) : -1;
        }

        /** To be called when DIRECTORIES, or their CLUSTERS, became others. */
        void index() {
            Arrays.fill(holder, -1);
            Arrays.fill(behind, 0);
            queue[0] = ROOT;
            queued = 1;
            for (int i = 0; i < queued && i < queue.length; i++) {
                open(queue[i], chain);
                for (int j = 0; j < chain.size; j++) indexCluster(queue[i], chain.at(j), chain.at(j + 1));
            }
        }

        private void indexCluster(int place, int c, int next) {
            if (c < 0 || c >= holder.length) return;
            holder[c] = place;
            behind[c] = next;
            for (int p = 4 * c; p < 4 * c + 4; p += 2) {
                boolean isDirectory = disk.get(headOf(p)) == FILE_TYPE && sets.isDirectory(headOf(p));
                if (isDirectory && queued < queue.length) queue[queued++] = p;
            }
        }

        /** The CLUSTERS of a place. */
        void open(int place, Chain into) {
            int head = headOf(place);
            if (place == ROOT) into.traceToEnd(space, space.root);
            else into.trace(space, sets.first(head), sets.isRun(head), sets.clusters(head));
        }

        boolean isEntry(int place) {
            int c = place >> 2;
            return place > 0 && space.isCluster(c) && c < holder.length && holder[c] >= 0
                && disk.get(headOf(place)) == FILE_TYPE;
        }

        boolean isPlace(int place) {
            return place == ROOT || isEntry(place);
        }

        boolean isDirectory(int place) {
            return place == ROOT || isEntry(place) && sets.isDirectory(headOf(place));
        }

        boolean isFile(int place) {
            return isEntry(place) && !sets.isDirectory(headOf(place));
        }

        /** Whether a DIRECTORY is another place, or in it at whatever depth. */
        boolean isWithin(int directory, int place) {
            int d = directory;
            for (int i = 0; i < NUMBERS && d > 0; i++) {
                if (d == place) return true;
                int c = d >> 2;
                d = c < holder.length ? holder[c] : 0;
            }
            return false;
        }

        int find(int directory, Name name) {
            return findBut(directory, name, NONE);
        }

        /** The SET with a NAME LIKE it that is not the other place. */
        int findBut(int directory, Name name, int other) {
            open(directory, chain);
            for (int p = 0; p < chain.places(); p += 2) {
                int head = chain.entry(p);
                if (disk.get(head) == FILE_TYPE && placeOf(head) != other
                    && sets.isLike(name, head, chain.entry(p + 2))) return placeOf(head);
            }
            return NONE;
        }

        int child(int directory, int i) {
            open(directory, chain);
            int left = i;
            for (int p = 0; p < chain.places() && left >= 0; p += 2) {
                int head = chain.entry(p);
                if (disk.get(head) != FILE_TYPE) continue;
                if (left == 0) return placeOf(head);
                left--;
            }
            return NONE;
        }

        int clusterOf(int place, int i) {
            open(place, chain);
            return i >= 0 && i < chain.size ? chain.at(i) : NONE;
        }

        int rootTells(int what) {
            open(ROOT, chain);
            switch (what) {
                case 0: return IS_DIRECTORY;
                case 1: return CLUSTER * chain.size;
                case 2: return space.root;
                default: return 0;
            }
        }

        long octets(int file, int at) {
            int length = sets.length(headOf(file));
            if (at < 0 || at >= length) return 0;
            open(file, chain);
            long v = 0;
            for (int i = 0; i < 8 && at + i < length; i++) {
                int a = Space.address(chain.at((at + i) / CLUSTER)) + (at + i) % CLUSTER;
                v |= (long) disk.get(a) << 8 * i;
            }
            return v;
        }
    }

    /** The CLUSTERS that a file or DIRECTORY has, and those that come or go. */
    private static final class Growth {
        private final Disk disk;
        private final Space space;
        private final Chain own = new Chain();
        private final Chain fresh = new Chain();
        private boolean wasRun;
        private boolean isRun;

        Growth(Disk disk, Space space) {
            this.disk = disk;
            this.space = space;
        }

        /** Begins anew with the CLUSTERS that own has: nothing comes yet. */
        void begin(boolean run) {
            wasRun = run;
            isRun = run;
            fresh.size = 0;
        }

        /** Chooses k CLUSTERS: false if there are not so many. */
        boolean choose(int k) {
            int row = own.size == 0 ? space.firstRow(k) : 0;
            if (wasRun && space.isFreeRow(own.last() + 1, k)) row = own.last() + 1;
            isRun = row != 0;
            if (isRun) {
                for (int i = 0; i < k; i++) fresh.add(row + i);
                return true;
            }
            for (int c = 2; c <= space.n + 1 && fresh.size < k; c++) {
                if (space.isFree(c)) fresh.add(c);
            }
            return fresh.size == k;
        }

        int at(int i) {
            return i < own.size ? own.at(i) : fresh.at(i - own.size);
        }

        /** PHASES T and B of taking: false if power failed. */
        boolean take() {
            if (!isRun) layFat();
            if (!disk.flush()) return false;
            if (!isRun && own.size > 0 && fresh.size > 0) space.setFat(own.last(), fresh.at(0));
            if (!disk.flush()) return false;
            for (int i = 0; i < fresh.size; i++) space.setTaken(fresh.at(i), true);
            space.setTaken(space.promised, true);
            return disk.flush();
        }

        private void layFat() {
            if (wasRun) {
                for (int i = 0; i + 1 < own.size; i++) space.setFat(own.at(i), own.at(i + 1));
            }
            for (int i = 0; i < fresh.size; i++) {
                space.setFat(fresh.at(i), i + 1 < fresh.size ? fresh.at(i + 1) : END);
            }
        }

        /** PHASES T and B of freeing all but the first ones: false if power failed. */
        boolean free(int keep) {
            if (!wasRun && keep < own.size) {
                space.setFat(own.at(keep - 1), END);
                for (int i = keep; i < own.size; i++) space.setFat(own.at(i), 0);
            }
            if (!disk.flush()) return false;
            for (int i = keep; i < own.size; i++) space.setTaken(own.at(i), false);
            return disk.flush();
        }
    }

    /** What changes a mounted volume; each answers OFF when power failed. */
    private static final class Acts {
        private final Disk disk;
        private final Space space;
        private final Sets sets;
        private final Tree tree;
        private final Growth growth;
        private int time;
        /** Where the new SET of the running call lies. */
        private int newHead;
        private int newTail;

        Acts(Disk disk, Space space, Sets sets, Tree tree) {
            this.disk = disk;
            this.space = space;
            this.sets = sets;
            this.tree = tree;
            growth = new Growth(disk, space);
        }

        int create(int directory, Name name, boolean isDirectory) {
            if (!tree.isDirectory(directory)) return BAD;
            if (!name.isRight()) return NAME;
            if (tree.find(directory, name) != NONE) return THERE;
            space.promised = 0;
            int child = isDirectory ? space.firstFree() : 0;
            if (isDirectory && child == 0) return FULL;
            space.promised = child;
            if (!planRow(directory, name)) return FULL;
            if (!openRow(directory, name)) return OFF;
            sets.begin(newHead, newTail, name);
            sets.setMade(newHead, time);
            sets.setChanged(newHead, time);
            if (isDirectory) {
                sets.setAttributes(newHead, IS_DIRECTORY);
                sets.setStream(newHead, true, child, CLUSTER);
            }
            sets.seal(newHead, newTail);
            if (!disk.flush()) return OFF;
            tree.index();
            return Tree.placeOf(newHead);
        }

        int rename(int place, int directory, Name name) {
            if (!tree.isEntry(place) || !tree.isDirectory(directory) || tree.isWithin(directory, place)) return BAD;
            if (!name.isRight()) return NAME;
            if (tree.findBut(directory, name, place) != NONE) return THERE;
            int head = Tree.headOf(place);
            int tail = tree.tailOf(place);
            if (sets.isReadOnly(head)) return BARRED;
            space.promised = 0;
            if (!planRow(directory, name)) return FULL;
            if (!openRow(directory, name)) return OFF;
            sets.begin(newHead, newTail, name);
            sets.copyBody(newHead, head);
            sets.seal(newHead, newTail);
            if (!disk.flush()) return OFF;
            sets.unuse(head, tail);
            if (!disk.flush()) return OFF;
            tree.index();
            return Tree.placeOf(newHead);
        }

        /** Whether a new SET finds its row of ENTRIES, or the CLUSTER that it needs for it. */
        private boolean planRow(int directory, Name name) {
            tree.open(directory, growth.own);
            growth.begin(directory != ROOT && sets.isRun(Tree.headOf(directory)));
            return freeRow(Name.entriesOf(name.size)) >= 0 || growth.choose(1);
        }

        /** The first even place of the DIRECTORY from which on as many ENTRIES can be used; -1: there is none. */
        private int freeRow(int entries) {
            Chain own = growth.own;
            for (int p = 0; p + entries <= own.places(); p += 2) {
                boolean isFree = true;
                for (int i = 0; i < entries; i++) isFree = isFree && disk.get(own.entry(p + i)) < IN_USE;
                if (isFree) return p;
            }
            return -1;
        }

        /** PHASES D F T B for a new SET, and of E what goes with it. */
        private boolean openRow(int directory, Name name) {
            if (!soil()) return false;
            if (space.promised != 0) disk.blank(Space.address(space.promised), CLUSTER);
            for (int i = 0; i < growth.fresh.size; i++) disk.blank(Space.address(growth.fresh.at(i)), CLUSTER);
            if (!disk.flush() || !growth.take()) return false;
            if (growth.fresh.size > 0 && directory != ROOT) growDirectory(directory);
            for (int i = 0; i < growth.fresh.size; i++) growth.own.add(growth.fresh.at(i));
            int p = freeRow(Name.entriesOf(name.size));
            for (int q = directory == ROOT ? 2 : 0; q < p; q++) {
                if (disk.get(growth.own.entry(q)) == 0) disk.put(growth.own.entry(q), 1);
            }
            newHead = growth.own.entry(p);
            newTail = growth.own.entry(p + 2);
            return true;
        }

        private void growDirectory(int directory) {
            int head = Tree.headOf(directory);
            sets.setStream(head, growth.isRun, growth.at(0), sets.length(head) + CLUSTER * growth.fresh.size);
            sets.setChanged(head, time);
            sets.seal(head, tree.tailOf(directory));
        }

        int fill(int file, int at, int n, int v) {
            if (!tree.isFile(file) || n < 1 || n > MOST_WRITTEN) return BAD;
            int head = Tree.headOf(file);
            int length = sets.length(head);
            if (at < 0 || at > length) return BAD;
            if (sets.isReadOnly(head)) return BARRED;
            length = Math.max(length, at + n);
            openFile(file);
            space.promised = 0;
            int lacking = (length + CLUSTER - 1) / CLUSTER - growth.own.size;
            if (lacking > 0 && !growth.choose(lacking)) return FULL;
            if (!soil()) return OFF;
            for (int i = 0; i < n; i++) {
                disk.put(Space.address(growth.at((at + i) / CLUSTER)) + (at + i) % CLUSTER, v + i);
            }
            if (!disk.flush() || !growth.take()) return OFF;
            return relay(file, growth.isRun, growth.at(0), length) ? length : OFF;
        }

        int shorten(int file, int n) {
            if (!tree.isFile(file)) return BAD;
            int head = Tree.headOf(file);
            if (n < 0 || n > sets.length(head)) return BAD;
            if (sets.isReadOnly(head)) return BARRED;
            openFile(file);
            int keep = (n + CLUSTER - 1) / CLUSTER;
            int going = growth.own.size - keep;
            if (!soil()) return OFF;
            if (!relay(file, keep > 0 && growth.wasRun, keep > 0 ? growth.own.at(0) : 0, n)) return OFF;
            return growth.free(keep) ? going : OFF;
        }

        int remove(int place) {
            if (!tree.isEntry(place)) return BAD;
            int head = Tree.headOf(place);
            if (sets.isDirectory(head) && tree.child(place, 0) != NONE) return BAD;
            if (sets.isReadOnly(head)) return BARRED;
            openFile(place);
            if (!soil()) return OFF;
            sets.unuse(head, tree.tailOf(place));
            if (!disk.flush() || !growth.free(0)) return OFF;
            tree.index();
            return growth.own.size;
        }

        int protect(int place, boolean is) {
            if (!tree.isEntry(place)) return BAD;
            int head = Tree.headOf(place);
            int was = sets.attributes(head);
            if (!soil()) return OFF;
            sets.setAttributes(head, is ? was | READ_ONLY : was & ~READ_ONLY);
            sets.seal(head, tree.tailOf(place));
            return disk.flush() ? was & READ_ONLY : OFF;
        }

        private void openFile(int place) {
            tree.open(place, growth.own);
            growth.begin(sets.isRun(Tree.headOf(place)));
        }

        /** PHASE E of a file whose OCTETS changed. */
        private boolean relay(int file, boolean isRun, int first, int length) {
            int head = Tree.headOf(file);
            sets.setStream(head, isRun, first, length);
            sets.setChanged(head, time);
            sets.seal(head, tree.tailOf(file));
            return disk.flush();
        }

        /** PHASE D. */
        private boolean soil() {
            disk.put(FLAGS, disk.get(FLAGS) | DIRTY);
            return disk.flush();
        }
    }
}
