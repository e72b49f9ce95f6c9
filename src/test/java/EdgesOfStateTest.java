/** Boundary cases that the promises 21 to 25 name: read, told, letter, cluster, count; and the PLACES of "4 CALLS". */
public final class EdgesOfStateTest {
    private static final int[] TOO_GREAT = {Edge.LEAST, -2, -1, Edge.MOST};

    private static boolean isPlace(int p) {
        return p == 0 || p == 18 || p == 22 || p == 34 || p == 40;
    }

    private static void places() {
        Edge.by("4 CALLS", "PLACES name files and DIRECTORIES: 0 ROOT; else 4 c + i for the FILE that is ENTRY i of CLUSTER c.");
        BitmapVolume[] x = {Edge.some(), Edge.some(), Edge.some(), Edge.some()};
        for (int p = -10; p < 430; p++) {
            Edge.due("told(" + p + ", 1)", x[0].told(p, 1) == Edge.BAD ? 0 : 1, isPlace(p) ? 1 : 0);
            Edge.due("letter(" + p + ", 0)", x[1].letter(p, 0) == Edge.BAD ? 0 : 1, isPlace(p) && p != 0 ? 1 : 0);
            Edge.due("cluster(" + p + ", 0)", x[2].cluster(p, 0) == Edge.BAD ? 0 : 1, isPlace(p) ? 1 : 0);
            Edge.due("list(" + p + ", 0)", x[3].list(p, 0) == Edge.BAD ? 0 : 1, p == 0 || p == 34 ? 1 : 0);
        }
        BitmapVolume y = Edge.some();
        y.write(40, 0, 128, 133);
        Edge.due("an OCTET of a file is 133", y.octet(36, 0), 133);
        Edge.due("it is no place", y.told(48, 0), Edge.BAD);
        Due.file(y, 34, "e");
        y.drop(y.list(34, 0));
        Edge.due("UNUSED", y.told(40, 0), Edge.BAD);
        int e = Due.look(y, 34, "e");
        y.drop(e);
        y.drop(34);
        Edge.due("in a DIRECTORY that went", y.told(e, 0), Edge.BAD);
        y = Edge.some();
        y.drop(40);
        y.drop(34);
        y.write(22, 100, 28 + 128, 105);
        Edge.due("b has the CLUSTER of a DIRECTORY that went", Due.clusters(y, 22) + "," + y.octet(32, 0), "9 10,133");
        Edge.due("an OCTET of b in it is no place", y.told(40, 0), Edge.BAD);
        Edge.due("the greatest CLUSTER's ENTRY 3", Due.mounted(100).told(4 * 101 + 3, 0), Edge.BAD);
        Edge.due("a CLUSTER less than 2", Due.mounted(100).told(7, 0), Edge.BAD);
    }

    /** The last CLUSTER of all is a DIRECTORY's. */
    private static void lastPlace() {
        Edge.by("4 CALLS", "else 4 c + i for the FILE that is ENTRY i of CLUSTER c.");
        BitmapVolume x = Due.mounted(16);
        int a = Due.file(x, 0, "a");
        int d = Due.dir(x, 0, "d");
        x.write(a, 0, 1024, 0);
        x.write(a, 1024, 128, 0);
        Edge.due("one is free", x.count(1), 1);
        int e = Due.dir(x, d, "e");
        Edge.due("it is N + 1", x.told(e, 2), 17);
        int f = Due.file(x, e, "f");
        Edge.due("ENTRY 0 of it", f, 68);
        Edge.due("ENTRY 0 of it is told", x.letter(f, 0), 'f');
        Edge.due("ENTRY 2 of it", x.told(70, 0), Edge.BAD);
        Edge.due("behind N + 1", x.told(72, 0), Edge.BAD);
        Edge.dueRight("f", x);
    }

    // ---- promise 21

    private static void read() {
        Edge.by("21 read", "Up to eight OCTETS of a file from one on (those that it has), the first the lowest. 0: none such.");
        BitmapVolume x = Edge.some();
        x.write(40, 0, 300, 200);
        for (int at : new int[] {0, 1, 120, 121, 124, 127, 128, 249, 255, 256, 291, 292}) {
            long due = 0;
            for (int i = 7; i >= 0; i--) due = due << 8 | 200 + at + i & 255;
            Edge.due("eight from " + at, x.read(40, at), due);
        }
        for (int at = 293; at < 300; at++) {
            long due = 0;
            for (int i = 299 - at; i >= 0; i--) due = due << 8 | 200 + at + i & 255;
            Edge.due(300 - at + " from " + at, x.read(40, at), due);
        }
        for (int at : new int[] {Edge.LEAST, -8, -1, 300, 301, 384, Edge.MOST - 7, Edge.MOST}) Edge.due("none from " + at, x.read(40, at), 0);
        x.cut(40, 290);
        Edge.due("what lies behind LENGTH is not told", x.read(40, 288), 200 + 288 - 256 | 200 + 289 - 256 << 8);
        x.cut(40, 0);
        Edge.due("an empty file", x.read(40, 0), 0);
        x.write(40, 0, 8, 255);
        Edge.due("the highest OCTET is 255's follower", x.read(40, 0), 0x06050403020100FFL);
        x.write(40, 0, 8, 248);
        Edge.due("the sign", x.read(40, 0), 0xFFFEFDFCFBFAF9F8L);
        for (int p : new int[] {0, 34, 1, 19, 84, -1, Edge.LEAST, Edge.MOST}) Edge.due("read(" + p + ", 0)", x.read(p, 0), 0);
        x.unmount();
        Edge.due("not mounted", x.read(40, 0), 0);
        Edge.due("a new object", new BitmapVolume().read(0, 0), 0);
        x = Edge.downward();
        Edge.due("from a CLUSTER to one of a lower number", x.read(40, 124), 0x04030201807F7E7DL);
    }

    // ---- promise 22

    private static void told() {
        Edge.by("22 told", "Of a place: 0 ATTRIBUTES (ROOT 16), 1 LENGTH (ROOT: 128 times its CLUSTERS), 2 the first CLUSTER, 3 ONE RUN (1, 0), 4 how many letters (ROOT 0), 5 HASH, 6 THE SET'S SUM, 7, 8 times (as ints; of ROOT 5 to 8: 0).");
        int[] root = {16, 512, 4, 0, 0, 0, 0, 0, 0};
        BitmapVolume x = Edge.some();
        for (int i = 0; i < 9; i++) Edge.due("told(0, " + i + ")", x.told(0, i), root[i]);
        Edge.due("ROOT of a new volume", Due.mounted(16).told(0, 1), 128);
        int[] a = {0, 200, 6, 1, 1, Due.roll(Due.roll(0, 'A'), 0), Due.u2(x, 21 * 64 + 2), 0, 0};
        for (int i = 0; i < 9; i++) Edge.due("told(18, " + i + ")", x.told(18, i), a[i]);
        int[] c = {0, 0, 0, 0, 1, Due.roll(Due.roll(0, 'C'), 0), Due.u2(x, 32 * 64 + 2), 0, 0};
        for (int i = 0; i < 9; i++) Edge.due("told(40, " + i + ")", x.told(40, i), c[i]);
        Edge.due("a DIRECTORY", x.told(34, 0) * 1000 + x.told(34, 1), 16128);
        x.clock(-1);
        x.write(18, 200, 57, 0);
        Edge.due("a chain", x.told(18, 3), 0);
        Edge.due("a time as int", x.told(18, 8), -1);
        Edge.by("22 told", "STATE; BAD: no such place, what.");
        for (int what : new int[] {Edge.LEAST, -1, 9, Edge.MOST}) {
            for (int p : new int[] {0, 18, 34}) Edge.refused("told(" + p + ", " + what + ")", Edge::some, y -> y.told(p, what), Edge.BAD);
            Edge.refused("told(0, " + what + ") not mounted", Due::base, y -> y.told(0, what), Edge.STATE);
        }
        for (int p : TOO_GREAT) Edge.refused("told(" + p + ", 0)", Edge::some, y -> y.told(p, 0), Edge.BAD);
        Edge.refused("told(1, 0) not mounted", Due::base, y -> y.told(1, 0), Edge.STATE);
    }

    // ---- promise 23

    private static void letter() {
        Edge.by("23 letter", "Letter i of the NAME of a place.");
        BitmapVolume x = Edge.some();
        String name = "abcdefghijklmnopqrstuvwxyz012\u00ff";
        int e = Due.file(x, 0, name);
        for (int i : new int[] {0, 1, 13, 14, 15, 16, 28, 29}) Edge.due("letter " + i, x.letter(e, i), name.charAt(i));
        Edge.due("letter 30", x.letter(e, 30), Edge.BAD);
        Edge.by("23 letter", "STATE; BAD: no such place, ROOT, i.");
        for (int i : new int[] {Edge.LEAST, -1, 1, 15, 30, Edge.MOST}) Edge.refused("letter(18, " + i + ")", Edge::some, y -> y.letter(18, i), Edge.BAD);
        for (int p : TOO_GREAT) Edge.refused("letter(" + p + ", 0)", Edge::some, y -> y.letter(p, 0), Edge.BAD);
        Edge.refused("ROOT", Edge::some, y -> y.letter(0, 0), Edge.BAD);
        Edge.refused("not mounted", Due::base, y -> y.letter(18, 0), Edge.STATE);
        Edge.refused("STATE before BAD", Due::base, y -> y.letter(0, -1), Edge.STATE);
    }

    // ---- promise 24

    private static void cluster() {
        Edge.by("24 cluster", "CLUSTER i of a place; NONE: it has not so many.");
        BitmapVolume x = Edge.full();
        int[] root = {4, 5, 8, 11, Edge.NONE, Edge.NONE};
        for (int i = 0; i < root.length; i++) Edge.due("cluster(0, " + i + ")", x.cluster(0, i), root[i]);
        int[] chain = {6, 7, 12, 13, 14, 15, 16, 17, 18, 19, 20, 21, Edge.NONE};
        for (int i = 0; i < chain.length; i++) Edge.due("cluster(18, " + i + ")", x.cluster(18, i), chain[i]);
        Edge.due("a DIRECTORY", x.cluster(34, 0) * 100 + x.cluster(34, 1), 1000 + Edge.NONE);
        Edge.due("an empty file", x.cluster(40, 0), Edge.NONE);
        for (int i : TOO_GREAT) {
            Edge.due("cluster(0, " + i + ")", x.cluster(0, i), Edge.NONE);
            Edge.due("cluster(18, " + i + ")", x.cluster(18, i), Edge.NONE);
        }
        Edge.by("24 cluster", "STATE; BAD: no such place.");
        for (int p : TOO_GREAT) {
            Edge.refused("cluster(" + p + ", 0)", Edge::some, y -> y.cluster(p, 0), Edge.BAD);
            Edge.refused("cluster(" + p + ", 0) not mounted", Due::base, y -> y.cluster(p, 0), Edge.STATE);
        }
        Edge.refused("cluster(0, 0) not mounted", Due::base, y -> y.cluster(0, 0), Edge.STATE);
    }

    // ---- promise 25

    private static void dueCounts(String what, BitmapVolume x, int... due) {
        for (int i = 0; i < due.length; i++) Edge.due(what + ": count(" + i + ")", x.count(i), due[i]);
    }

    private static void count() {
        Edge.by("25 count", "0 CLUSTERS N, 1 those that are free, 2 the longest row of free ones, 3 whether DIRTY is on the disk (1, 0), 4 SECTORS WRITTEN ever (format() aside), 5 whether it is mounted (1, 0).");
        dueCounts("the least", Due.mounted(16), 16, 13, 13, 0, 0, 1);
        dueCounts("the greatest", Due.mounted(100), 100, 97, 97, 0, 0, 1);
        BitmapVolume x = Edge.full();
        dueCounts("none is free", x, 20, 0, 0, 0);
        x.drop(22);
        dueCounts("one row of one", x, 20, 1, 1, 1);
        x.cut(18, 1408);
        dueCounts("two rows of one, one of them to N + 1", x, 20, 2, 1);
        x.cut(18, 1152);
        dueCounts("a row of three to N + 1", x, 20, 4, 3);
        x.cut(18, 0);
        dueCounts("the longest is the last", x, 20, 13, 10);
        x.write(40, 0, 1024, 0);
        dueCounts("rows of two, one, two", x, 20, 5, 2);
        x = Edge.bitmapLast();
        x.write(40, 0, 1024, 0);
        dueCounts("CLUSTERS 2 and 20", x, 20, 2, 1);
        x.write(40, 1024, 128, 0);
        dueCounts("CLUSTER 2 alone", x, 20, 1, 1);
        x = Due.mounted(16);
        int a = Due.file(x, 0, "a");
        x.write(a, 0, 1024, 0);
        int b = Due.file(x, 0, "b");
        x.write(b, 0, 128, 0);
        x.cut(a, 0);
        dueCounts("the longest is the first", x, 16, 10, 8);
        x = new BitmapVolume();
        x.format(16, 1);
        x.format(100, 1);
        x.spoil(0, 0, 0);
        Edge.due("format() and spoil() aside", x.count(4), 0);
        x = Edge.some();
        int written = x.count(4);
        x.fail(1);
        x.write(18, 0, 1, 9);
        Edge.due("one that failed is not WRITTEN", x.count(4), written);
        x.format(16, 1);
        Edge.due("ever: format() leaves it", x.count(4), written);
        x.mount();
        x.unmount();
        Edge.due("unmount() writes one", x.count(4), written + 1);
    }

    private static void countRefused() {
        Edge.by("25 count", "BAD: what; STATE (0 to 3).");
        for (int what : new int[] {Edge.LEAST, -1, 6, Edge.MOST}) {
            Edge.refused("count(" + what + ")", Edge::some, x -> x.count(what), Edge.BAD);
            Edge.refused("count(" + what + ") not mounted", Due::base, x -> x.count(what), Edge.BAD);
        }
        for (int what = 0; what < 4; what++) {
            int w = what;
            Edge.refused("count(" + what + ") not mounted", Due::base, x -> x.count(w), Edge.STATE);
            Edge.refused("count(" + what + ") of a new object", BitmapVolume::new, x -> x.count(w), Edge.STATE);
        }
        Edge.due("count(4) not mounted", Due.base().count(4) > 0 ? 1 : 0, 1);
        Edge.due("count(5) not mounted", Due.base().count(5), 0);
        BitmapVolume x = Edge.fails(Edge.some(), 1);
        x.bar(18, true);
        dueCounts("behind OFF", x, Edge.STATE, Edge.STATE, Edge.STATE, Edge.STATE);
    }

    public static void main(String[] args) {
        places();
        lastPlace();
        read();
        told();
        letter();
        cluster();
        count();
        countRefused();
        Due.end();
    }
}
