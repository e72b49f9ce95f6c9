import java.util.ArrayList;
import java.util.List;
import java.util.Random;
import java.util.TreeSet;

/**
 * Random runs (of fixed seeds) against a second reading of the document, written apart from the class:
 * it parses the whole disk into a tree for every call, and makes a whole new disk for every PHASE.
 * Compared are all answers, and the whole disk at times.
 */
public final class ModelTest {
    private static int wrong = 0;

    // ------------------------------------------------------------------ the second reading

    static final class Node {
        Node parent;
        int place;
        int attributes, made, changed, hash, sum;
        boolean run;
        int first, length;
        List<Integer> name = new ArrayList<>();
        List<Integer> clusters = new ArrayList<>();
        List<Integer> entries = new ArrayList<>();
        List<Node> children = new ArrayList<>();

        boolean isDirectory() {
            return (attributes & 16) != 0;
        }
    }

    static final class Scan {
        int fault, faultCluster, faultEntry;
        boolean second;
        int n;
        int bitmap;
        int[] great = new int[65536];
        TreeSet<Integer> met = new TreeSet<>();
        Node root = new Node();
        int mended;
        int[][] withFat;
        int[][] withEntries;

        Scan no(int f, int c, int e) {
            fault = f;
            faultCluster = c;
            faultEntry = e;
            return this;
        }
    }

    static final class Model {
        int[][] disk = new int[216][64];
        boolean mounted;
        int failIn, written, time;
        int[] fault = new int[3];
        List<Integer> draft = new ArrayList<>();
        Scan now;

        static int[][] copy(int[][] d) {
            int[][] c = new int[216][];
            for (int s = 0; s < 216; s++) c[s] = d[s].clone();
            return c;
        }

        static int get(int[][] d, int a) {
            return d[a / 64][a % 64];
        }

        static long num(int[][] d, int a, int octets) {
            long v = 0;
            for (int i = octets - 1; i >= 0; i--) v = v * 256 + get(d, a + i);
            return v;
        }

        static void set(int[][] d, int a, int octets, long v) {
            for (int i = 0; i < octets; i++) d[(a + i) / 64][(a + i) % 64] = (int) (v >> 8 * i & 255);
        }

        static long sum32(long s, int octet) {
            return ((s % 2 == 1 ? 2147483648L : 0) + s / 2 + octet) % 4294967296L;
        }

        static int sum16(int s, int octet) {
            return ((s % 2 == 1 ? 32768 : 0) + s / 2 + octet) % 65536;
        }

        static int at(int cluster, int entry) {
            return (16 + 2 * (cluster - 2)) * 64 + 32 * entry;
        }

        static long fat(int[][] d, int c) {
            return num(d, 512 + 4 * c, 4);
        }

        static final long END = 4294967295L;

        // ---- forms

        static long bootSum(int[][] d, int s0) {
            long s = 0;
            for (int k = 0; k < 3; k++) {
                for (int i = 0; i < 64; i++) {
                    if (k == 0 && (i == 44 || i == 45 || i == 49)) continue;
                    s = sum32(s, d[s0 + k][i]);
                }
            }
            return s;
        }

        static void layBoot(int[][] d, int s0, int n, int root, long serial) {
            for (int k = 0; k < 4; k++) d[s0 + k] = new int[64];
            int[] head = {235, 118, 144, 69, 88, 70, 65, 84, 32, 32, 32};
            System.arraycopy(head, 0, d[s0], 0, 11);
            int a = s0 * 64;
            set(d, a + 16, 4, 16 + 2 * n);
            set(d, a + 20, 4, 8);
            set(d, a + 24, 4, 7);
            set(d, a + 28, 4, 16);
            set(d, a + 32, 4, n);
            set(d, a + 36, 4, root);
            set(d, a + 40, 4, serial);
            d[s0][46] = 6;
            d[s0][47] = 1;
            d[s0][48] = 1;
            d[s0][49] = 255;
            for (int k = 0; k < 3; k++) {
                d[s0 + k][62] = 85;
                d[s0 + k][63] = 170;
            }
            for (int i = 0; i < 16; i++) set(d, a + 192 + 4 * i, 4, bootSum(d, s0));
        }

        static boolean bootRight(int[][] d, int s0) {
            int a = s0 * 64;
            long n = num(d, a + 32, 4), root = num(d, a + 36, 4), flags = num(d, a + 44, 2);
            if (n < 16 || n > 100 || root < 2 || root > n + 1 || flags != 0 && flags != 2) return false;
            int percent = d[s0][49];
            if (percent > 100 && percent != 255) return false;
            int[][] e = new int[216][64];
            layBoot(e, s0, (int) n, (int) root, num(d, a + 40, 4));
            e[s0][44] = (int) flags;
            e[s0][49] = percent;
            for (int k = 0; k < 4; k++) {
                for (int i = 0; i < 64; i++) if (e[s0 + k][i] != d[s0 + k][i]) return false;
            }
            return true;
        }

        static boolean zero(int[][] d, int a, int... ranges) {
            for (int r = 0; r < ranges.length; r += 2) {
                for (int i = ranges[r]; i <= ranges[r + 1]; i++) if (get(d, a + i) != 0) return false;
            }
            return true;
        }

        static boolean casesRight(int[][] d, int a, int octets, int[] great) {
            for (int i = 0; i < 65536; i++) great[i] = i;
            List<Integer> table = new ArrayList<>();
            for (int i = 0; i < octets / 2; i++) table.add((int) num(d, a + 2 * i, 2));
            int letter = 0;
            while (!table.isEmpty()) {
                int v = table.remove(0);
                if (v == 65535) {
                    if (table.isEmpty()) return false;
                    letter += table.remove(0);
                } else {
                    if (v >= 256) return false;
                    great[letter++] = v;
                }
                if (letter > 256) return false;
            }
            for (int i = 0; i < 256; i++) if (great[great[i]] != great[i]) return false;
            return true;
        }

        static boolean isLetter(int v) {
            return (v >= 32 && v <= 126 && "\"*/:<>?\\|".indexOf(v) < 0) || (v >= 160 && v <= 255);
        }

        static boolean isName(List<Integer> name) {
            if (name.isEmpty() || name.size() > 30) return false;
            for (int v : name) if (!isLetter(v)) return false;
            int last = name.get(name.size() - 1);
            return last != 32 && last != 46;
        }

        static int hash(int[] great, List<Integer> name) {
            int s = 0;
            for (int v : name) s = sum16(sum16(s, great[v] % 256), great[v] / 256);
            return s;
        }

        static boolean like(int[] great, List<Integer> a, List<Integer> b) {
            if (a.size() != b.size()) return false;
            for (int i = 0; i < a.size(); i++) if (great[a.get(i)] != great[b.get(i)]) return false;
            return true;
        }

        static int setSum(int[][] d, List<Integer> entries) {
            int s = 0;
            for (int k = 0; k < entries.size(); k++) {
                for (int i = 0; i < 32; i++) if (k > 0 || i != 2 && i != 3) s = sum16(s, get(d, entries.get(k) + i));
            }
            return s;
        }

        /** A SET that is right by itself, or null. */
        static Node parse(int[][] d, List<Integer> all, int p, Scan scan) {
            int f = all.get(p);
            if (p % 2 == 1 || get(d, f) != 133) return null;
            int more = get(d, f + 1);
            if (more != 2 && more != 3 || p + more >= all.size()) return null;
            Node x = new Node();
            x.place = (f - 1024) / 32 + 8;
            x.entries.addAll(all.subList(p, p + more + 1));
            int s = x.entries.get(1);
            x.attributes = (int) num(d, f + 4, 2);
            if (x.attributes != 0 && x.attributes != 1 && x.attributes != 16 && x.attributes != 17) return null;
            if (!zero(d, f, 6, 7, 16, 31)) return null;
            x.made = (int) num(d, f + 8, 4);
            x.changed = (int) num(d, f + 12, 4);
            x.sum = (int) num(d, f + 2, 2);
            if (get(d, s) != 192 || !zero(d, s, 2, 2, 6, 7, 16, 19)) return null;
            int flag = get(d, s + 1);
            if (flag != 1 && flag != 3) return null;
            x.run = flag == 3;
            int letters = get(d, s + 3);
            if (letters < 1 || letters > 30 || more != (letters > 15 ? 3 : 2)) return null;
            x.hash = (int) num(d, s + 4, 2);
            for (int k = 2; k <= more; k++) {
                int e = x.entries.get(k);
                if (get(d, e) != 193 || get(d, e + 1) != 0) return null;
                for (int i = 0; i < 15; i++) {
                    int v = (int) num(d, e + 2 + 2 * i, 2);
                    if (15 * (k - 2) + i < letters) x.name.add(v);
                    else if (v != 0) return null;
                }
            }
            if (!isName(x.name) || hash(scan.great, x.name) != x.hash || setSum(d, x.entries) != x.sum) return null;
            if (!zero(d, s, 12, 15, 28, 31)) return null;
            long length = num(d, s + 24, 4);
            if (length != num(d, s + 8, 4) || length > 128L * scan.n) return null;
            x.length = (int) length;
            long first = num(d, s + 20, 4);
            if (length == 0 ? first != 0 || x.run || x.isDirectory() : first < 2 || first > scan.n + 1) return null;
            if (x.isDirectory() && length % 128 != 0) return null;
            x.first = (int) first;
            return x;
        }

        static Scan scan(int[][] original, boolean mend) {
            int[][] d = copy(original);
            Scan x = new Scan();
            int s0 = bootRight(d, 0) ? 0 : bootRight(d, 4) ? 4 : -1;
            if (s0 < 0) return x.no(1, 0, 0);
            x.second = s0 == 4;
            x.n = (int) num(d, s0 * 64 + 32, 4);
            int root = (int) num(d, s0 * 64 + 36, 4);
            if (fat(d, 0) != 4294967288L) return x.no(2, 0, 0);
            if (fat(d, 1) != END) return x.no(2, 1, 0);
            x.root.attributes = 16;
            x.root.first = root;
            long c = root;
            while (true) {
                x.root.clusters.add((int) c);
                x.met.add((int) c);
                long v = fat(d, (int) c);
                if (v == END) break;
                if (v < 2 || v > x.n + 1 || x.met.contains((int) v)) return x.no(3, (int) c, 0);
                c = v;
            }
            x.root.length = 128 * x.root.clusters.size();
            int b = at(root, 0);
            long bc = num(d, b + 20, 4);
            if (get(d, b) != 129 || !zero(d, b, 1, 19) || num(d, b + 24, 8) != (x.n + 7) / 8) return x.no(4, root, 0);
            if (bc < 2 || bc > x.n + 1 || x.met.contains((int) bc) || fat(d, (int) bc) != END) return x.no(4, root, 0);
            x.bitmap = (int) bc;
            x.met.add((int) bc);
            int k = at(root, 1);
            long kc = num(d, k + 20, 4), size = num(d, k + 24, 8);
            if (get(d, k) != 130 || !zero(d, k, 1, 3, 8, 19)) return x.no(4, root, 1);
            if (size < 2 || size > 128 || size % 2 != 0) return x.no(4, root, 1);
            if (kc < 2 || kc > x.n + 1 || x.met.contains((int) kc) || fat(d, (int) kc) != END) return x.no(4, root, 1);
            long sum = 0;
            for (int i = 0; i < size; i++) sum = sum32(sum, get(d, at((int) kc, 0) + i));
            if (sum != num(d, k + 4, 4) || !casesRight(d, at((int) kc, 0), (int) size, x.great)) return x.no(4, root, 1);
            x.met.add((int) kc);
            x.withFat = copy(original);
            x.withEntries = copy(original);
            List<Node> dirs = new ArrayList<>();
            dirs.add(x.root);
            for (int i = 0; i < dirs.size(); i++) {
                if (!scanDirectory(d, x, dirs.get(i), dirs, mend)) return x;
            }
            for (int i = 0; i < 8 * ((x.n + 7) / 8); i++) {
                boolean is = (get(d, at(x.bitmap, 0) + i / 8) >> i % 8 & 1) == 1;
                if (is == (i < x.n && x.met.contains(i + 2))) continue;
                if (!mend) return x.no(9, 0, 0);
                x.mended++;
                break;
            }
            return x;
        }

        private static boolean scanDirectory(int[][] d, Scan x, Node dir, List<Node> dirs, boolean mend) {
            List<Integer> all = new ArrayList<>();
            for (int c : dir.clusters) for (int e = 0; e < 4; e++) all.add(at(c, e));
            boolean over = false;
            int p = dir == x.root ? 2 : 0;
            while (p < all.size()) {
                int a = all.get(p);
                int type = get(d, a);
                int c = (a - 1024) / 128 + 2, e = a % 128 / 32;
                if (type == 0) {
                    over = true;
                    p++;
                } else if (over) {
                    if (!mend) return x.no(5, c, e) == null;
                    x.mended++;
                    set(x.withEntries, a, 1, 0);
                    p++;
                } else if (type < 128) {
                    p++;
                } else {
                    Node s = parse(d, all, p, x);
                    if (s == null) {
                        if (!mend) return x.no(5, c, e) == null;
                        x.mended++;
                        set(x.withEntries, a, 1, type == 128 ? 1 : type - 128);
                        p++;
                        continue;
                    }
                    p += s.entries.size();
                    int f = scanSet(d, x, dir, s, mend);
                    if (f != 0 && !mend) return x.no(f, c, e) == null;
                    if (f != 0) {
                        x.mended++;
                        for (int y : s.entries) set(x.withEntries, y, 1, get(d, y) - 128);
                        continue;
                    }
                    x.met.addAll(s.clusters);
                    s.parent = dir;
                    dir.children.add(s);
                    if (s.isDirectory()) dirs.add(s);
                }
            }
            return true;
        }

        private static int scanSet(int[][] d, Scan x, Node dir, Node s, boolean mend) {
            int k = (s.length + 127) / 128;
            boolean lacksEnd = false;
            if (s.run) {
                if (s.first + k - 1 > x.n + 1) return 6;
                for (int i = 0; i < k; i++) s.clusters.add(s.first + i);
            } else if (k > 0) {
                long c = s.first;
                s.clusters.add(s.first);
                for (int i = 1; i < k; i++) {
                    c = fat(d, (int) c);
                    if (c < 2 || c > x.n + 1) return 6;
                    s.clusters.add((int) c);
                }
                lacksEnd = fat(d, (int) c) != END;
            }
            if (lacksEnd && !mend) return 6;
            TreeSet<Integer> own = new TreeSet<>();
            for (int c : s.clusters) if (x.met.contains(c) || !own.add(c)) return 7;
            for (Node o : dir.children) if (like(x.great, o.name, s.name)) return 8;
            if (lacksEnd) {
                x.mended++;
                set(x.withFat, 512 + 4 * s.clusters.get(k - 1), 4, END);
            }
            return 0;
        }

        // ---- writing

        /** One PHASE: the disk becomes the wanted one, SECTOR by SECTOR. */
        boolean phase(int[][] want) {
            for (int s = 0; s < 216; s++) {
                if (java.util.Arrays.equals(want[s], disk[s])) continue;
                if (failIn == 1) {
                    failIn = 0;
                    mounted = false;
                    return false;
                }
                if (failIn > 0) failIn--;
                disk[s] = want[s].clone();
                written++;
            }
            return true;
        }

        void parseAgain() {
            now = scan(disk, false);
            if (now.fault != 0) throw new IllegalStateException("the volume is not RIGHT: fault " + now.fault);
        }

        Node find(int place) {
            return findIn(now.root, place);
        }

        private Node findIn(Node x, int place) {
            if (x.place == place) return x;
            for (Node y : x.children) {
                Node z = findIn(y, place);
                if (z != null) return z;
            }
            return null;
        }

        boolean taken(int[][] d, int c) {
            return (get(d, at(now.bitmap, 0) + (c - 2) / 8) >> (c - 2) % 8 & 1) == 1;
        }

        void mark(int[][] d, int c, boolean is) {
            int a = at(now.bitmap, 0) + (c - 2) / 8, bit = 1 << (c - 2) % 8;
            set(d, a, 1, is ? get(d, a) | bit : get(d, a) & ~bit);
        }

        TreeSet<Integer> free() {
            TreeSet<Integer> f = new TreeSet<>();
            for (int c = 2; c <= now.n + 1; c++) if (!taken(disk, c)) f.add(c);
            return f;
        }

        /** k of the free ones for it, taken off them; null: FULL. Its new ONE RUN comes in isRun[0]. */
        static List<Integer> choose(TreeSet<Integer> free, List<Integer> own, boolean run, int k, boolean[] isRun) {
            if (free.size() < k) return null;
            List<Integer> got = new ArrayList<>();
            isRun[0] = true;
            List<Integer> starts = new ArrayList<>();
            if (own.isEmpty()) starts.addAll(free);
            else if (run) starts.add(own.get(own.size() - 1) + 1);
            for (int s : starts) {
                List<Integer> row = new ArrayList<>();
                for (int i = 0; i < k; i++) row.add(s + i);
                if (free.containsAll(row)) {
                    free.removeAll(row);
                    return row;
                }
            }
            isRun[0] = false;
            for (int i = 0; i < k; i++) got.add(free.pollFirst());
            return got;
        }

        boolean dirty() {
            int[][] w = copy(disk);
            w[0][44] |= 2;
            return phase(w);
        }

        boolean tableOfTaken(List<Integer> own, boolean run, boolean isRun, List<Integer> come) {
            if (isRun || come.isEmpty()) return true;
            int[][] w = copy(disk);
            for (int i = 0; i < come.size(); i++) {
                set(w, 512 + 4 * come.get(i), 4, i + 1 < come.size() ? come.get(i + 1) : END);
            }
            if (run) for (int i = 0; i + 1 < own.size(); i++) set(w, 512 + 4 * own.get(i), 4, own.get(i + 1));
            if (!phase(w)) return false;
            if (own.isEmpty()) return true;
            set(w, 512 + 4 * own.get(own.size() - 1), 4, come.get(0));
            return phase(w);
        }

        static void seal(int[][] w, List<Integer> entries) {
            set(w, entries.get(0) + 2, 2, setSum(w, entries));
        }

        static void stream(int[][] w, Node x, boolean run, int first, int length) {
            int s = x.entries.get(1);
            set(w, s + 1, 1, run ? 3 : 1);
            set(w, s + 8, 8, length);
            set(w, s + 20, 4, first);
            set(w, s + 24, 8, length);
        }

        // ---- calls

        int format(int n, int serial) {
            if (mounted) return -2;
            if (n < 16 || n > 100) return -1;
            disk = new int[216][64];
            layBoot(disk, 0, n, 4, serial & 4294967295L);
            layBoot(disk, 4, n, 4, serial & 4294967295L);
            long[] f = {4294967288L, END, END, END, END};
            for (int i = 0; i < 5; i++) set(disk, 512 + 4 * i, 4, f[i]);
            set(disk, at(2, 0), 1, 7);
            List<Integer> t = new ArrayList<>();
            for (int v = 0; v < 256; v++) {
                if (v == 0) java.util.Collections.addAll(t, 65535, 97);
                if (v == 123) java.util.Collections.addAll(t, 65535, 101);
                if (v == 247 || v == 255) java.util.Collections.addAll(t, 65535, 1);
                if (v >= 97 && v < 123 || v >= 224 && v != 247 && v != 255) t.add(v - 32);
            }
            long s = 0;
            for (int i = 0; i < t.size(); i++) {
                set(disk, at(3, 0) + 2 * i, 2, t.get(i));
                s = sum32(sum32(s, t.get(i) % 256), t.get(i) / 256);
            }
            set(disk, at(4, 0), 1, 129);
            set(disk, at(4, 0) + 20, 4, 2);
            set(disk, at(4, 0) + 24, 8, (n + 7) / 8);
            set(disk, at(4, 1), 1, 130);
            set(disk, at(4, 1) + 4, 4, s);
            set(disk, at(4, 1) + 20, 4, 3);
            set(disk, at(4, 1) + 24, 8, 2 * t.size());
            return 16 + 2 * n;
        }

        int octet(int s, int i) {
            return s < 0 || s > 215 || i < 0 || i > 63 ? -1 : disk[s][i];
        }

        int spoil(int s, int i, int v) {
            if (mounted) return -2;
            if (s < 0 || s > 215 || i < 0 || i > 63 || v < 0 || v > 255) return -1;
            int was = disk[s][i];
            disk[s][i] = v;
            return was;
        }

        int fail(int m) {
            if (m < 0 || m > 1000) return -1;
            failIn = m;
            return 1;
        }

        private int tellFault(Scan x) {
            fault = new int[] {x.fault, x.faultCluster, x.faultEntry};
            return -10 - x.fault;
        }

        int mount() {
            if (mounted) return -2;
            Scan x = scan(disk, false);
            if (x.fault != 0) return tellFault(x);
            now = x;
            mounted = true;
            return x.second ? 2 : 1;
        }

        int fault(int what) {
            return what < 0 || what > 2 ? -1 : fault[what];
        }

        int unmount() {
            if (!mounted) return -2;
            int[][] w = copy(disk);
            w[0][44] &= 253;
            w[0][49] = 100 * (now.n - free().size()) / now.n;
            mounted = false;
            return phase(w) ? 1 : -7;
        }

        int mend() {
            if (mounted) return -2;
            Scan x = scan(disk, true);
            if (x.fault != 0) return tellFault(x);
            int[][] w = copy(disk);
            if (x.second) {
                for (int s = 0; s < 4; s++) w[s] = disk[s + 4].clone();
                if (!phase(w)) return -7;
            }
            for (int s = 8; s < 15; s++) w[s] = x.withFat[s];
            if (!phase(w)) return -7;
            for (int s = 16; s < 216; s++) w[s] = x.withEntries[s];
            if (!phase(w)) return -7;
            for (int i = 0; i < (x.n + 7) / 8; i++) {
                int v = 0;
                for (int b = 0; b < 8; b++) if (8 * i + b < x.n && x.met.contains(8 * i + b + 2)) v += 1 << b;
                set(w, at(x.bitmap, 0) + i, 1, v);
            }
            return phase(w) ? x.mended : -7;
        }

        int letters(long v) {
            List<Integer> more = new ArrayList<>();
            for (int i = 0; i < 4; i++) {
                int l = (int) (v >>> 16 * i & 65535);
                if (l != 0) more.add(l);
            }
            if (draft.size() + more.size() > 30) return -1;
            draft.addAll(more);
            return draft.size();
        }

        int clear() {
            int had = draft.size();
            draft.clear();
            return had;
        }

        private List<Integer> takeDraft() {
            List<Integer> name = draft;
            draft = new ArrayList<>();
            return name;
        }

        private Node named(Node dir, List<Integer> name, Node but) {
            for (Node y : dir.children) if (y != but && like(now.great, y.name, name)) return y;
            return null;
        }

        int look(int directory) {
            List<Integer> name = takeDraft();
            if (!mounted) return -2;
            Node d = find(directory);
            if (d == null || !d.isDirectory()) return -1;
            if (!isName(name)) return -3;
            Node y = named(d, name, null);
            return y == null ? -9 : y.place;
        }

        int list(int directory, int i) {
            if (!mounted) return -2;
            Node d = find(directory);
            if (d == null || !d.isDirectory()) return -1;
            return i >= 0 && i < d.children.size() ? d.children.get(i).place : -9;
        }

        private int row(int[][] w, List<Integer> all, int m) {
            for (int p = 0; p + m <= all.size(); p += 2) {
                int used = 0;
                for (int i = 0; i < m; i++) if (get(w, all.get(p + i)) >= 128) used++;
                if (used == 0) return p;
            }
            return -1;
        }

        private static List<Integer> entriesOf(List<Integer> clusters) {
            List<Integer> all = new ArrayList<>();
            for (int c : clusters) for (int e = 0; e < 4; e++) all.add(at(c, e));
            return all;
        }

        /** Lays a new SET: old null for make(). */
        private int lay(Node dir, List<Integer> name, boolean isDirectory, Node old) {
            int m = name.size() > 15 ? 4 : 3;
            TreeSet<Integer> free = free();
            boolean[] isRun = {dir.run};
            List<Integer> child = new ArrayList<>(), come = new ArrayList<>();
            if (isDirectory) child = choose(free, new ArrayList<>(), false, 1, new boolean[1]);
            if (child == null) return -6;
            if (row(disk, entriesOf(dir.clusters), m) < 0) come = choose(free, dir.clusters, dir.run, 1, isRun);
            if (come == null) return -6;
            if (!dirty()) return -7;
            int[][] w = copy(disk);
            List<Integer> fresh = new ArrayList<>(child);
            fresh.addAll(come);
            for (int a : entriesOf(fresh)) for (int i = 0; i < 32; i++) set(w, a + i, 1, 0);
            if (!phase(w)) return -7;
            if (!tableOfTaken(dir.clusters, dir.run, isRun[0], come)) return -7;
            w = copy(disk);
            for (int c : fresh) mark(w, c, true);
            if (!phase(w)) return -7;
            List<Integer> clusters = new ArrayList<>(dir.clusters);
            clusters.addAll(come);
            List<Integer> all = entriesOf(clusters);
            int p = row(w, all, m);
            if (!come.isEmpty() && dir.place != 0) {
                stream(w, dir, isRun[0], dir.first, dir.length + 128);
                set(w, dir.entries.get(0) + 12, 4, time);
                seal(w, dir.entries);
            }
            for (int q = 0; q < p; q++) if (get(w, all.get(q)) == 0) set(w, all.get(q), 1, 1);
            Node x = new Node();
            x.entries.addAll(all.subList(p, p + m));
            for (int a : x.entries) for (int i = 0; i < 32; i += 8) set(w, a + i, 8, 0);
            int f = x.entries.get(0), s = x.entries.get(1);
            set(w, f, 1, 133);
            set(w, f + 1, 1, m - 1);
            set(w, f + 4, 2, old != null ? old.attributes : isDirectory ? 16 : 0);
            set(w, f + 8, 4, old != null ? old.made : time);
            set(w, f + 12, 4, old != null ? old.changed : time);
            set(w, s, 1, 192);
            if (old != null) stream(w, x, old.run, old.first, old.length);
            else if (isDirectory) stream(w, x, true, child.get(0), 128);
            else stream(w, x, false, 0, 0);
            set(w, s + 3, 1, name.size());
            set(w, s + 4, 2, hash(now.great, name));
            for (int k = 2; k < m; k++) set(w, x.entries.get(k), 1, 193);
            for (int i = 0; i < name.size(); i++) set(w, x.entries.get(2 + i / 15) + 2 + 2 * (i % 15), 2, name.get(i));
            seal(w, x.entries);
            if (!phase(w)) return -7;
            if (old != null) {
                for (int a : old.entries) set(w, a, 1, get(w, a) - 128);
                if (!phase(w)) return -7;
            }
            parseAgain();
            return (f - 1024) / 32 + 8;
        }

        int make(int directory, boolean isDirectory) {
            List<Integer> name = takeDraft();
            if (!mounted) return -2;
            Node d = find(directory);
            if (d == null || !d.isDirectory()) return -1;
            if (!isName(name)) return -3;
            if (named(d, name, null) != null) return -4;
            return lay(d, name, isDirectory, null);
        }

        int move(int place, int directory) {
            List<Integer> name = takeDraft();
            if (!mounted) return -2;
            Node x = find(place), d = find(directory);
            if (x == null || place == 0 || d == null || !d.isDirectory()) return -1;
            for (Node y = d; y != null; y = y.parent) if (y == x) return -1;
            if (!isName(name)) return -3;
            if (named(d, name, x) != null) return -4;
            if (x.attributes % 2 == 1) return -5;
            return lay(d, name, false, x);
        }

        int write(int file, int at, int n, int v) {
            if (!mounted) return -2;
            Node x = find(file);
            if (x == null || x.isDirectory() || at < 0 || at > x.length || n < 1 || n > 1024) return -1;
            if (x.attributes % 2 == 1) return -5;
            int length = Math.max(x.length, at + n);
            int k = (length + 127) / 128 - x.clusters.size();
            boolean[] isRun = {x.run};
            List<Integer> come = new ArrayList<>();
            if (k > 0) come = choose(free(), x.clusters, x.run, k, isRun);
            if (come == null) return -6;
            if (!dirty()) return -7;
            List<Integer> all = new ArrayList<>(x.clusters);
            all.addAll(come);
            int[][] w = copy(disk);
            for (int i = 0; i < n; i++) set(w, at(all.get((at + i) / 128), 0) + (at + i) % 128, 1, v + i & 255);
            if (!phase(w)) return -7;
            if (!tableOfTaken(x.clusters, x.run, isRun[0], come)) return -7;
            w = copy(disk);
            for (int c : come) mark(w, c, true);
            if (!phase(w)) return -7;
            stream(w, x, isRun[0], all.get(0), length);
            set(w, x.entries.get(0) + 12, 4, time);
            seal(w, x.entries);
            if (!phase(w)) return -7;
            parseAgain();
            return length;
        }

        private int release(Node x, int keep) {
            int[][] w = copy(disk);
            List<Integer> gone = x.clusters.subList(keep, x.clusters.size());
            if (!x.run && !gone.isEmpty()) {
                for (int c : gone) set(w, 512 + 4 * c, 4, 0);
                if (keep > 0) set(w, 512 + 4 * x.clusters.get(keep - 1), 4, END);
            }
            if (!phase(w)) return -7;
            for (int c : gone) mark(w, c, false);
            if (!phase(w)) return -7;
            parseAgain();
            return gone.size();
        }

        int cut(int file, int n) {
            if (!mounted) return -2;
            Node x = find(file);
            if (x == null || x.isDirectory() || n < 0 || n > x.length) return -1;
            if (x.attributes % 2 == 1) return -5;
            if (!dirty()) return -7;
            int[][] w = copy(disk);
            stream(w, x, n > 0 && x.run, n > 0 ? x.first : 0, n);
            set(w, x.entries.get(0) + 12, 4, time);
            seal(w, x.entries);
            return phase(w) ? release(x, (n + 127) / 128) : -7;
        }

        int drop(int place) {
            if (!mounted) return -2;
            Node x = find(place);
            if (x == null || place == 0 || !x.children.isEmpty()) return -1;
            if (x.attributes % 2 == 1) return -5;
            if (!dirty()) return -7;
            int[][] w = copy(disk);
            for (int a : x.entries) set(w, a, 1, get(w, a) - 128);
            return phase(w) ? release(x, 0) : -7;
        }

        int bar(int place, boolean is) {
            if (!mounted) return -2;
            Node x = find(place);
            if (x == null || place == 0) return -1;
            if (!dirty()) return -7;
            int[][] w = copy(disk);
            set(w, x.entries.get(0) + 4, 2, (x.attributes & 16) + (is ? 1 : 0));
            seal(w, x.entries);
            if (!phase(w)) return -7;
            int was = x.attributes & 1;
            parseAgain();
            return was;
        }

        long read(int file, int at) {
            Node x = mounted ? find(file) : null;
            if (x == null || x.isDirectory() || at < 0) return 0;
            long v = 0;
            for (int i = 7; i >= 0; i--) {
                if ((long) at + i >= x.length) continue;
                v = v << 8 | get(disk, at(x.clusters.get((at + i) / 128), 0) + (at + i) % 128);
            }
            return v;
        }

        int told(int place, int what) {
            if (!mounted) return -2;
            Node x = find(place);
            if (x == null || what < 0 || what > 8) return -1;
            int[] t = {x.attributes, x.length, x.first, x.run ? 1 : 0, x.name.size(), x.hash, x.sum, x.made, x.changed};
            return t[what];
        }

        int letter(int place, int i) {
            if (!mounted) return -2;
            Node x = find(place);
            return x == null || i < 0 || i >= x.name.size() ? -1 : x.name.get(i);
        }

        int cluster(int place, int i) {
            if (!mounted) return -2;
            Node x = find(place);
            if (x == null) return -1;
            return i < 0 || i >= x.clusters.size() ? -9 : x.clusters.get(i);
        }

        int count(int what) {
            if (what < 0 || what > 5) return -1;
            if (what == 4) return written;
            if (what == 5) return mounted ? 1 : 0;
            if (!mounted) return -2;
            if (what == 0) return now.n;
            if (what == 1) return free().size();
            if (what == 3) return disk[0][44] >> 1 & 1;
            int best = 0;
            for (int from : free()) {
                int k = 0;
                while (free().contains(from + k)) k++;
                best = Math.max(best, k);
            }
            return best;
        }
    }

    // ------------------------------------------------------------------ random runs

    private final long seed;
    private final Random random;
    private final BitmapVolume x = new BitmapVolume();
    private final Model m = new Model();
    private final StringBuilder story = new StringBuilder();
    private final List<int[]> undo = new ArrayList<>();
    private boolean stopped;

    private ModelTest(long seed) {
        this.seed = seed;
        random = new Random(seed);
    }

    private int any(int n) {
        return random.nextInt(n);
    }

    private long due(String call, long got, long want) {
        story.append(call).append(" = ").append(want).append('\n');
        if (got != want && !stopped) {
            wrong++;
            stopped = true;
            System.out.println("seed " + seed + ": " + call + " answered " + got + ", due is " + want);
            if (wrong == 1) System.out.println(story);
        }
        return got;
    }

    private void dueDisk() {
        for (int s = 0; s < 216 && !stopped; s++) {
            for (int i = 0; i < 64 && !stopped; i++) {
                if (x.octet(s, i) != m.octet(s, i)) due("octet(" + s + ", " + i + ")", x.octet(s, i), m.octet(s, i));
            }
        }
    }

    private void spoil(int s, int i, int v) {
        undo.add(new int[] {s, i, m.octet(s, i)});
        due("spoil(" + s + ", " + i + ", " + v + ")", x.spoil(s, i, v), m.spoil(s, i, v));
    }

    private void put(int a, int octets, long v) {
        for (int i = 0; i < octets; i++) spoil((a + i) / 64, (a + i) % 64, (int) (v >> 8 * i & 255));
    }

    /** Takes back what was spoiled since the volume was mounted last. */
    private void unspoil() {
        for (int i = undo.size() - 1; i >= 0; i--) {
            int[] u = undo.get(i);
            due("spoil(" + u[0] + ", " + u[1] + ", " + u[2] + ")", x.spoil(u[0], u[1], u[2]), m.spoil(u[0], u[1], u[2]));
        }
        undo.clear();
    }

    private void mount() {
        due("mount()", x.mount(), m.mount());
        for (int i = 0; i < 3; i++) due("fault(" + i + ")", x.fault(i), m.fault(i));
    }

    private void mend() {
        due("mend()", x.mend(), m.mend());
        for (int i = 0; i < 3; i++) due("fault(" + i + ")", x.fault(i), m.fault(i));
        due("count(4)", x.count(4), m.count(4));
        if (any(3) == 0) dueDisk();
    }

    private List<Node> nodes() {
        List<Node> all = new ArrayList<>();
        if (!m.mounted) return all;
        all.add(m.now.root);
        for (int i = 0; i < all.size(); i++) all.addAll(all.get(i).children);
        return all;
    }

    private int place(int kind) {
        List<Node> all = nodes();
        if (all.isEmpty() || any(25) == 0) return any(4) == 0 ? random.nextInt() : any(420) - 5;
        for (int tries = 0; tries < 6; tries++) {
            Node y = all.get(any(all.size()));
            if (kind == 0 || y.isDirectory() == (kind == 2)) return y.place;
        }
        return 0;
    }

    private static final int[] ODD = {32, 46, 34, 42, 47, 58, 60, 62, 63, 92, 124, 31, 127, 159, 160, 255, 256, 65535, 126, 247, 215};

    private void name() {
        int size = any(12) == 0 ? any(31) : any(6) == 0 ? 14 + any(4) : 1 + any(2);
        for (int i = 0; i < size; i++) {
            int v = "abcABC".charAt(any(6));
            if (any(20) == 0) v = 224 - 32 * any(2) + any(32);
            if (any(60) == 0) v = ODD[any(ODD.length)];
            long w = v;
            if (any(4) == 0) w = w << 16 * any(4);
            if (any(10) == 0) w |= (long) "xyXY".charAt(any(4)) << 48;
            due("letters(" + w + ")", x.letters(w), m.letters(w));
        }
    }

    private void act() {
        int a, b, c, d;
        switch (any(14)) {
            case 0: case 1: case 2:
                name();
                a = place(2);
                boolean is = any(5) < 2;
                due("make(" + a + ", " + is + ")", x.make(a, is), m.make(a, is));
                break;
            case 3: case 4: case 5: case 6:
                a = place(1);
                int length = m.mounted && m.find(a) != null ? m.find(a).length : 0;
                b = any(4) == 0 ? any(length + 2) - (any(40) == 0 ? 1 : 0) : length;
                c = any(30) == 0 ? 1022 + any(5) : any(40) == 0 ? -any(2) : 1 + any(1 << 2 + any(8));
                d = any(8) == 0 ? random.nextInt() : any(256);
                due("write(" + a + ", " + b + ", " + c + ", " + d + ")", x.write(a, b, c, d), m.write(a, b, c, d));
                break;
            case 7: case 8:
                a = place(1);
                int l = m.mounted && m.find(a) != null ? m.find(a).length : 0;
                b = any(4) == 0 ? 0 : any(l + 3) - 1;
                due("cut(" + a + ", " + b + ")", x.cut(a, b), m.cut(a, b));
                break;
            case 9: case 10:
                a = place(0);
                due("drop(" + a + ")", x.drop(a), m.drop(a));
                break;
            case 11: case 12:
                name();
                a = place(0);
                b = place(2);
                due("move(" + a + ", " + b + ")", x.move(a, b), m.move(a, b));
                break;
            default:
                a = place(0);
                boolean yes = any(3) == 0;
                due("bar(" + a + ", " + yes + ")", x.bar(a, yes), m.bar(a, yes));
                break;
        }
        due("count(4)", x.count(4), m.count(4));
    }

    private void ask() {
        int a, b;
        switch (any(9)) {
            case 0:
                name();
                a = place(2);
                due("look(" + a + ")", x.look(a), m.look(a));
                break;
            case 1:
                a = place(2);
                b = any(8) - 1;
                due("list(" + a + ", " + b + ")", x.list(a, b), m.list(a, b));
                break;
            case 2:
                a = place(1);
                b = any(10) == 0 ? random.nextInt() : any(600) - 2;
                due("read(" + a + ", " + b + ")", x.read(a, b), m.read(a, b));
                break;
            case 3:
                a = place(0);
                for (int i = -1; i < 10; i++) due("told(" + a + ", " + i + ")", x.told(a, i), m.told(a, i));
                break;
            case 4:
                a = place(0);
                for (int i = -1; i < 31; i++) due("letter(" + a + ", " + i + ")", x.letter(a, i), m.letter(a, i));
                break;
            case 5:
                a = place(0);
                for (int i = -1; i < 12; i++) due("cluster(" + a + ", " + i + ")", x.cluster(a, i), m.cluster(a, i));
                break;
            case 6:
                for (int i = -1; i < 7; i++) due("count(" + i + ")", x.count(i), m.count(i));
                break;
            case 7:
                if (any(6) == 0) due("clear()", x.clear(), m.clear());
                break;
            default:
                int t = any(3) == 0 ? random.nextInt() : any(1000);
                x.clock(t);
                m.time = t;
                story.append("clock(").append(t).append(")\n");
                break;
        }
    }

    /** Changes of one SET, mostly with its SUM made right, so that the later questions are met too. */
    private void spoilSet() {
        Scan s = Model.scan(m.disk, true);
        List<Node> all = new ArrayList<>();
        if (s.fault == 0) all.add(s.root);
        for (int i = 0; i < all.size(); i++) all.addAll(all.get(i).children);
        if (all.size() < 2) return;
        Node y = all.get(1 + any(all.size() - 1)), z = all.get(1 + any(all.size() - 1));
        int f = y.entries.get(0), st = y.entries.get(1), nm = y.entries.get(2);
        int c = 1 + any(s.n + 2);
        switch (any(16)) {
            case 0: put(st + 20, 4, c); break;
            case 1: put(st + 20, 4, z.first); break;
            case 2: put(st + 1, 1, 4 - Model.get(m.disk, st + 1)); break;
            case 3:
                int length = Math.max(0, y.length + (any(5) - 2) * 128);
                put(st + 8, 8, length);
                put(st + 24, 8, length);
                break;
            case 4: put(st + 8, 1, any(256)); break;
            case 5:
                put(nm + 2, 2, any(3) == 0 ? any(300) : z.name.get(0));
                List<Integer> name = new ArrayList<>(y.name);
                name.set(0, (int) Model.num(m.disk, nm + 2, 2));
                put(st + 4, 2, Model.hash(s.great, name));
                break;
            case 6: put(f + 4, 1, any(3) == 0 ? 1 << any(8) : 16 * any(2) + any(2)); break;
            case 7: put(f + any(64), 1, any(256)); break;
            case 8: put(nm + any(32 * (y.entries.size() - 2)), 1, any(256)); break;
            case 9: put(y.entries.get(any(y.entries.size())), 1, any(3) == 0 ? 128 + any(128) : any(70)); break;
            case 10:
                if (!y.clusters.isEmpty()) put(512 + 4 * y.clusters.get(any(y.clusters.size())), 4, any(2) == 0 ? c : any(3) - 1);
                break;
            case 11:
                if (!y.clusters.isEmpty()) put(512 + 4 * y.clusters.get(y.clusters.size() - 1), 4, any(2) == 0 ? c : 0);
                break;
            case 12: put(f + 1, 1, 1 + any(4)); break;
            case 13: put(f + 6 + any(2), 1, any(2)); break;
            case 14: put(st + 12 + any(8), 1, any(2)); break;
            default: put(st + 3, 1, any(33)); break;
        }
        if (any(6) != 0) put(f + 2, 2, Model.setSum(m.disk, y.entries));
    }

    private void spoilSome() {
        int n = (int) Math.max(16, Math.min(100, Model.num(m.disk, 32, 4)));
        switch (any(14)) {
            case 0: spoil(any(8), any(64), any(256)); break;
            case 1: spoil(any(2) * 4, new int[] {44, 45, 49}[any(3)], any(3) == 0 ? any(256) : any(4)); break;
            case 2: put(512 + 4 * any(n + 3), 4, any(3) == 0 ? -any(9) : any(n + 4)); break;
            case 3: put(512 + 4 * any(5), 4, any(3) == 0 ? -any(9) : any(n + 4)); break;
            case 4: spoil(16, any((n + 7) / 8 + 1), any(256)); break;
            case 5: spoil(20, any(64), any(256)); break;
            case 6:
                spoil(18 + any(2), any(64), any(256));
                long s = 0;
                int size = Math.min(128, (int) Model.num(m.disk, 1280 + 32 + 24, 1));
                if (any(4) == 0) {
                    size = 2 * any(66);
                    put(1280 + 32 + 24, 1, size);
                }
                for (int i = 0; i < size && i < 128; i++) s = Model.sum32(s, Model.get(m.disk, 1152 + i));
                put(1280 + 32 + 4, 4, s);
                break;
            case 7: spoil(any(216), any(64), any(256)); break;
            case 8:
                Scan t = Model.scan(m.disk, true);
                if (t.fault != 0) break;
                Node y = t.root;
                while (any(2) == 0 && !y.children.isEmpty()) y = y.children.get(any(y.children.size()));
                if (y.isDirectory()) put(Model.at(y.clusters.get(any(y.clusters.size())), any(4)), 1, any(3) == 0 ? any(256) : any(3));
                break;
            default: spoilSet(); break;
        }
    }

    private void run(int steps) {
        int n = any(3) == 0 ? 16 + any(85) : 16 + any(12);
        if (any(5) == 0) mount();
        due("format(" + n + ")", x.format(n, (int) seed), m.format(n, (int) seed));
        mount();
        for (int i = 0; i < steps && !stopped; i++) {
            int k = any(100);
            if (m.mounted) {
                if (k < 70) act();
                else if (k < 92) ask();
                else if (k < 95) {
                    int f = any(12) == 0 ? any(1003) - 1 : any(9);
                    due("fail(" + f + ")", x.fail(f), m.fail(f));
                } else if (k < 97) due("unmount()", x.unmount(), m.unmount());
                else if (k == 97) mount();
                else if (k == 98) mend();
                else {
                    due("format(16, 1)", x.format(16, 1), m.format(16, 1));
                    spoilSome();
                }
                if (!m.mounted && any(2) == 0) dueDisk();
            } else {
                if (k < 30) mount();
                else if (k < 45) mend();
                else if (k < 85) spoilSome();
                else if (k < 88) ask();
                else if (k < 90) act();
                else if (k < 92) due("fail(3)", x.fail(3), m.fail(3));
                else if (k < 95) {
                    mend();
                    mount();
                } else if (k == 95) {
                    int v = any(130) - 10;
                    due("format(" + v + ")", x.format(v, v), m.format(v, v));
                } else unspoil();
                if (m.mounted) undo.clear();
            }
        }
        dueDisk();
    }

    public static void main(String[] args) {
        int runs = args.length > 0 ? Integer.parseInt(args[0]) : 1500;
        for (long seed = 1; seed <= runs && wrong < 5; seed++) new ModelTest(seed).run(160);
        System.out.println(wrong == 0 ? "all answers are as due" : wrong + " answers are not as due");
        if (wrong != 0) System.exit(1);
    }
}
