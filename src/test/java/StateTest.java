/** Promises 21 to 25: read, told, letter, cluster, count. */
public final class StateTest {
    private static final int BAD = BitmapVolume.BAD, STATE = BitmapVolume.STATE, NONE = BitmapVolume.NONE;

    private static void reading() {
        BitmapVolume x = Due.mounted(20);
        int a = Due.file(x, 0, "a");
        int d = Due.dir(x, 0, "d");
        Due.due("21: an empty file", x.read(a, 0), 0);
        x.write(a, 0, 140, 0x80);
        Due.due("21: eight", x.read(a, 0), 0x8786858483828180L);
        Due.due("21: over a CLUSTER's end", x.read(a, 124), 0x03020100FFFEFDFCL);
        Due.due("21: three", x.read(a, 137), 0x0B0A09L);
        Due.due("21: the last one", x.read(a, 139), 0x0BL);
        int[] none = {140, -1, Integer.MIN_VALUE, Integer.MAX_VALUE};
        for (int at : none) Due.due("21: read(a, " + at + ")", x.read(a, at), 0);
        Due.due("21: ROOT", x.read(0, 0), 0);
        Due.due("21: a DIRECTORY", x.read(d, 0), 0);
        Due.due("21: no place", x.read(a + 1, 0), 0);
        x.cut(a, 138);
        Due.due("21: cut", x.read(a, 137), 9);
        x.unmount();
        Due.due("21: not mounted", x.read(a, 0), 0);
    }

    private static void telling() {
        BitmapVolume x = Due.mounted(20);
        x.clock(-2);
        int a = Due.file(x, 0, "a");
        int[] root = {16, 256, 4, 0, 0, 0, 0, 0, 0};
        for (int i = 0; i < 9; i++) Due.due("22: told(0, " + i + ")", x.told(0, i), root[i]);
        x.write(a, 0, 129, 0);
        x.bar(a, true);
        int sum = Due.u2(x, Due.address(a) + 2);
        int[] file = {1, 129, 6, 1, 1, 32800, sum, -2, -2};
        for (int i = 0; i < 9; i++) Due.due("22: told(a, " + i + ")", x.told(a, i), file[i]);
        int s = 0;
        for (int i = 0; i < 96; i++) {
            int v = i < 64 ? x.octet(21, i) : x.octet(22, i - 64);
            if (i != 2 && i != 3) s = Due.roll(s, v);
        }
        Due.due("22: THE SET'S SUM", sum, s);
        int[] bad = {-1, 9, Integer.MIN_VALUE, Integer.MAX_VALUE};
        for (int b : bad) {
            Due.due("22: told(a, " + b + ")", x.told(a, b), BAD);
            Due.due("22: told(0, " + b + ")", x.told(0, b), BAD);
        }
        int[] places = {1, 2, 3, 15, 16, 17, 19, 20, 21, 22, 84, 88, -18, 1000000, Integer.MIN_VALUE, Integer.MAX_VALUE};
        for (int p : places) {
            Due.due("22: told(" + p + ", 0)", x.told(p, 0), BAD);
            Due.due("23: letter(" + p + ", 0)", x.letter(p, 0), BAD);
            Due.due("24: cluster(" + p + ", 0)", x.cluster(p, 0), BAD);
            Due.due("20: bar(" + p + ")", x.bar(p, true), BAD);
            Due.due("18: drop(" + p + ")", x.drop(p), BAD);
        }
        x.unmount();
        Due.due("22: not mounted", x.told(1, -1), STATE);
    }

    /** OCTETS of a file that look like a SET make no place. */
    private static void placesAreMet() {
        BitmapVolume x = Due.mounted(20);
        int a = Due.file(x, 0, "a");
        x.write(a, 0, 128, 133);
        Due.due("4: the CLUSTER begins with 133", x.octet(24, 0), 133);
        Due.due("4: it is no place", x.told(24, 0), BAD);
        int d = Due.dir(x, 0, "d");
        int f = Due.file(x, d, "f");
        Due.due("4: f", x.told(f, 0), 0);
        x.drop(f);
        x.drop(d);
        Due.due("4: f went", x.told(f, 0), BAD);
    }

    private static void spelling() {
        BitmapVolume x = Due.mounted(20);
        int a = Due.file(x, 0, "Abcdefghijklmnopqrstuvwxyz\u00e9");
        Due.due("23: all", Due.name(x, a), "Abcdefghijklmnopqrstuvwxyz\u00e9");
        Due.due("23: letter 14", x.letter(a, 14), 'o');
        Due.due("23: letter 15", x.letter(a, 15), 'p');
        int[] bad = {-1, 27, 30, Integer.MIN_VALUE, Integer.MAX_VALUE};
        for (int b : bad) Due.due("23: letter(a, " + b + ")", x.letter(a, b), BAD);
        Due.due("23: ROOT", x.letter(0, 0), BAD);
        x.unmount();
        Due.due("23: not mounted", x.letter(0, 0), STATE);
    }

    private static void clusters() {
        BitmapVolume x = Due.mounted(20);
        int a = Due.file(x, 0, "a");
        Due.due("24: none", x.cluster(a, 0), NONE);
        x.write(a, 0, 257, 0);
        int[] rows = {6, 7, 8, NONE};
        for (int i = 0; i < 4; i++) Due.due("24: cluster(a, " + i + ")", x.cluster(a, i), rows[i]);
        Due.due("24: ROOT", x.cluster(0, 1), 5);
        Due.due("24: ROOT has not so many", x.cluster(0, 2), NONE);
        Due.due("24: -1", x.cluster(a, -1), NONE);
        Due.due("24: far", x.cluster(a, Integer.MAX_VALUE), NONE);
        x.unmount();
        Due.due("24: not mounted", x.cluster(1, 0), STATE);
    }

    private static void counts() {
        BitmapVolume x = new BitmapVolume();
        int[] before = {STATE, STATE, STATE, STATE, 0, 0};
        for (int i = 0; i < 6; i++) Due.due("25: count(" + i + ") before", x.count(i), before[i]);
        int[] bad = {-1, 6, Integer.MIN_VALUE, Integer.MAX_VALUE};
        for (int b : bad) Due.due("25: count(" + b + ")", x.count(b), BAD);
        x.format(30, 1);
        x.mount();
        int[] fresh = {30, 27, 27, 0, 0, 1};
        for (int i = 0; i < 6; i++) Due.due("25: count(" + i + ")", x.count(i), fresh[i]);
        int a = Due.file(x, 0, "a");
        x.write(a, 0, 512, 0);
        int b = Due.file(x, 0, "b");
        x.write(b, 0, 1, 0);
        x.cut(a, 0);
        int[] later = {30, 24, 20, 1, x.count(4), 1};
        for (int i = 0; i < 6; i++) Due.due("25: count(" + i + ") later", x.count(i), later[i]);
        int written = x.count(4);
        x.fail(2);
        x.write(b, 0, 100, 7);
        Due.due("25: the one that failed was not WRITTEN", x.count(4), written + 1);
        for (int v : bad) Due.due("25: count(" + v + ")", x.count(v), BAD);
    }

    public static void main(String[] args) {
        reading();
        telling();
        placesAreMet();
        spelling();
        clusters();
        counts();
        Due.end();
    }
}
