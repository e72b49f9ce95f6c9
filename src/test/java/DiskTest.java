/** Promises 1 to 5: a new object, format, octet, spoil, fail. */
public final class DiskTest {
    private static void newObject() {
        int sum = 0;
        for (int v : Due.disk(BitmapVolume::new, y -> 0)) sum += v;
        Due.due("1: OCTETS of a new disk", sum, 0);
        BitmapVolume x = new BitmapVolume();
        Due.due("1: count(5)", x.count(5), 0);
        Due.due("1: count(4)", x.count(4), 0);
        Due.due("1: clear()", x.clear(), 0);
        for (int i = 0; i < 3; i++) Due.due("1: fault(" + i + ")", x.fault(i), 0);
        Due.due("1: mount()", x.mount(), -11);
        x.format(16, 0);
        x.mount();
        int a = Due.file(x, 0, "a");
        Due.due("1: time", x.told(a, 7), 0);
    }

    private static int[] boot(int n, long serial) {
        int[] b = new int[256];
        int[] head = {235, 118, 144, 69, 88, 70, 65, 84, 32, 32, 32};
        System.arraycopy(head, 0, b, 0, head.length);
        long[][] fours = {{16, 16 + 2 * n}, {20, 8}, {24, 7}, {28, 16}, {32, n}, {36, 4}, {40, serial}};
        for (long[] f : fours) for (int i = 0; i < 4; i++) b[(int) f[0] + i] = (int) (f[1] >> 8 * i & 255);
        b[46] = 6;
        b[47] = 1;
        b[48] = 1;
        b[49] = 255;
        for (int s = 0; s < 192; s += 64) {
            b[s + 62] = 85;
            b[s + 63] = 170;
        }
        long sum = 0;
        for (int i = 0; i < 192; i++) if (i != 44 && i != 45 && i != 49) sum = Due.roll32(sum, b[i]);
        for (int i = 0; i < 64; i++) b[192 + i] = (int) (sum >> 8 * (i % 4) & 255);
        return b;
    }

    private static BitmapVolume spoiled() {
        BitmapVolume x = new BitmapVolume();
        for (int s = 0; s < 216; s += 5) x.spoil(s, s % 64, 77);
        return x;
    }

    private static void formatLaysAll(int n, int serial) {
        BitmapVolume x = spoiled();
        Due.due("2: format(" + n + ")", x.format(n, serial), 16 + 2 * n);
        int[] d = new int[216 * 64];
        System.arraycopy(boot(n, serial & 4294967295L), 0, d, 0, 256);
        System.arraycopy(d, 0, d, 256, 256);
        for (int i = 0; i < 20; i++) d[512 + i] = 255;
        d[512] = 248;
        d[1024] = 7;
        int[] table = new int[64];
        int k = 0;
        for (int v = 0; v < 256; v++) {
            int run = v == 0 ? 97 : v == 123 ? 101 : v == 247 || v == 255 ? 1 : 0;
            if (run > 0) {
                table[k++] = 65535;
                table[k++] = run;
                v += run - 1;
            } else {
                table[k++] = v - 32;
            }
        }
        long sum = 0;
        for (int i = 0; i < 128; i++) {
            d[1152 + i] = table[i / 2] >> 8 * (i % 2) & 255;
            sum = Due.roll32(sum, d[1152 + i]);
        }
        d[1280] = 129;
        d[1300] = 2;
        d[1304] = (n + 7) / 8;
        d[1312] = 130;
        for (int i = 0; i < 4; i++) d[1316 + i] = (int) (sum >> 8 * i & 255);
        d[1332] = 3;
        d[1336] = 128;
        int[] laid = Due.disk(DiskTest::spoiled, y -> y.format(n, serial));
        for (int a = 0; a < d.length; a++) {
            if (laid[a] != d[a]) Due.due("2: format(" + n + "): OCTET " + a, laid[a], d[a]);
        }
        Due.due("2: mount()", x.mount(), 1);
        Due.due("2: count(0)", x.count(0), n);
        Due.due("2: count(4)", x.count(4), 0);
    }

    private static void formatRefuses() {
        BitmapVolume x = new BitmapVolume();
        int[] bad = {15, 101, 0, -1, Integer.MIN_VALUE, Integer.MAX_VALUE};
        for (int n : bad) Due.due("2: format(" + n + ")", x.format(n, 1), BitmapVolume.BAD);
        Due.due("2: nothing was laid", x.octet(0, 0), 0);
        x.format(16, 1);
        x.mount();
        Due.due("2: format() mounted", x.format(16, 1), BitmapVolume.STATE);
        Due.due("2: format(0) mounted", x.format(0, 1), BitmapVolume.STATE);
    }

    private static void formatLeaves() {
        BitmapVolume x = new BitmapVolume();
        x.mount();
        x.clock(-5);
        x.letters('q');
        x.fail(1);
        x.format(16, 1);
        Due.due("2: fault(0) stays", x.fault(0), 1);
        x.mount();
        Due.due("2: fail() stays", x.make(0, false), BitmapVolume.OFF);
        x.mount();
        int a = Due.file(x, 0, "q");
        Due.due("2: time stays", x.told(a, 8), -5);
        x.letters('r');
        x.unmount();
        x.format(16, 1);
        Due.due("2: THE DRAFT stays", x.clear(), 1);
        Due.due("2: count(4) stays", x.count(4) > 0 ? 1 : 0, 1);
    }

    private static void octets() {
        BitmapVolume x = new BitmapVolume();
        Due.due("4: spoil(215, 63, 255)", x.spoil(215, 63, 255), 0);
        Due.due("4: spoil(215, 63, 0)", x.spoil(215, 63, 0), 255);
        Due.due("4: spoil(0, 0, 9)", x.spoil(0, 0, 9), 0);
        Due.due("3: octet(0, 0)", x.octet(0, 0), 9);
        int[][] bad = {{-1, 0}, {216, 0}, {0, -1}, {0, 64}, {Integer.MAX_VALUE, 0}, {0, Integer.MIN_VALUE}};
        for (int[] b : bad) {
            Due.due("3: octet(" + b[0] + ", " + b[1] + ")", x.octet(b[0], b[1]), BitmapVolume.BAD);
            Due.due("4: spoil(" + b[0] + ", " + b[1] + ", 1)", x.spoil(b[0], b[1], 1), BitmapVolume.BAD);
        }
        Due.due("4: spoil(0, 0, 256)", x.spoil(0, 0, 256), BitmapVolume.BAD);
        Due.due("4: spoil(0, 0, -1)", x.spoil(0, 0, -1), BitmapVolume.BAD);
        Due.due("4: it stayed", x.octet(0, 0), 9);
        Due.due("4: not WRITTEN", x.count(4), 0);
        x.format(16, 1);
        x.mount();
        Due.due("3: octet() mounted", x.octet(0, 0), 235);
        Due.due("4: spoil() mounted", x.spoil(0, 0, 1), BitmapVolume.STATE);
        Due.due("4: spoil(-1) mounted", x.spoil(-1, 0, 1), BitmapVolume.STATE);
    }

    private static void failing() {
        BitmapVolume x = Due.mounted(16);
        int[][] rows = {{-1, -1}, {0, 1}, {1000, 1}, {1001, -1}, {0, 1}};
        for (int[] r : rows) Due.due("5: fail(" + r[0] + ")", x.fail(r[0]), r[1]);
        Due.due("5: fail(0) is none", Due.file(x, 0, "a"), 18);
        x.fail(4);
        x.bar(18, true);
        x.bar(18, false);
        Due.due("5: two were WRITTEN", x.write(18, 0, 1, 1), BitmapVolume.OFF);
        Due.due("5: F was, B was not", x.octet(16, 0), 15);
        Due.due("5: not mounted", x.count(5), 0);
        Due.due("5: power is there again", x.mount(), 1);
        Due.due("5: it came once", x.write(18, 0, 1, 1), 1);
        Due.due("5: fail(1)", x.fail(1), 1);
        Due.due("5: fail(0) takes it back", x.fail(0), 1);
        Due.due("5: nothing fails", x.write(18, 0, 1, 2), 1);
        x.fail(1);
        Due.due("5: refused, it holds", x.write(18, 5, 1, 2), BitmapVolume.BAD);
        Due.due("5: nothing WRITTEN, it holds", x.write(18, 0, 1, 2), 1);
        Due.due("5: it came", x.write(18, 0, 1, 3), BitmapVolume.OFF);
    }

    public static void main(String[] args) {
        newObject();
        formatLaysAll(16, 1);
        formatLaysAll(17, -1);
        formatLaysAll(57, Integer.MIN_VALUE);
        formatLaysAll(100, 305419896);
        formatRefuses();
        formatLeaves();
        octets();
        failing();
        Due.end();
    }
}
