/** Promises 15 to 20: make, write, cut, drop, move, bar. */
public final class ActsTest {
    private static final int BAD = BitmapVolume.BAD, STATE = BitmapVolume.STATE, NAME = BitmapVolume.NAME;
    private static final int THERE = BitmapVolume.THERE, BARRED = BitmapVolume.BARRED, FULL = BitmapVolume.FULL;
    private static final int NONE = BitmapVolume.NONE;

    private static void dueRight(String what, BitmapVolume x) {
        x.unmount();
        Due.due(what + ": it is RIGHT", x.mount(), 1);
    }

    private static void making() {
        BitmapVolume x = Due.mounted(20);
        x.clock(9);
        int a = Due.file(x, 0, "a");
        Due.due("15: a", a, 18);
        Due.due("15: ROOT took one", Due.clusters(x, 0), "4 5");
        int[] told = {0, 0, 0, 0, 1, 32800, x.told(a, 6), 9, 9};
        for (int i = 0; i < 9; i++) Due.due("15: told(a, " + i + ")", x.told(a, i), told[i]);
        int d = Due.dir(x, 0, "d");
        Due.due("15: d", d, 22);
        Due.due("15: d's CLUSTER first", Due.clusters(x, d), "6");
        Due.due("15: then ROOT's", Due.clusters(x, 0), "4 5 7");
        Due.due("15: ONE RUN", x.told(d, 3), 1);
        Due.due("15: LENGTH", x.told(d, 1), 128);
        Due.due("15: ATTRIBUTES", x.told(d, 0), 16);
        Due.due("15: FAT of ONE RUN is not WRITTEN", Due.fat(x, 6), 0);
        Due.due("15: FAT of ROOT", Due.fat(x, 4) * 10000 + Due.fat(x, 5) * 100 + Due.fat(x, 7), 50699);
        Due.due("15: an ENTRY ahead got TYPE 1", x.octet(22, 32), 1);
        int b = Due.file(x, d, "abcdefghijklmnopqrstuvwxyzABCD");
        Due.due("15: in d", b, 24);
        Due.due("15: 30 letters", Due.name(x, b), "abcdefghijklmnopqrstuvwxyzABCD");
        Due.due("15: three ENTRIES follow", x.octet(24, 1), 3);
        Due.due("15: the 16th letter", x.octet(25, 34), 'p');
        int c = Due.file(x, d, "abcdefghijklmno");
        Due.due("15: two ENTRIES follow", Due.at(x, Due.address(c) + 1), 2);
        dueRight("15", x);
    }

    private static void makingRefused() {
        BitmapVolume x = Due.mounted(20);
        int a = Due.file(x, 0, "a");
        int written = x.count(4);
        Due.due("15: no place", Due.file(x, 19, "*"), BAD);
        Due.due("15: a file", Due.file(x, a, "x"), BAD);
        Due.due("15: NAME", Due.file(x, 0, "*"), NAME);
        Due.due("15: no letters", x.make(0, false), NAME);
        Due.due("15: THERE", Due.file(x, 0, "A"), THERE);
        Due.due("15: THERE", Due.dir(x, 0, "a"), THERE);
        Due.due("15: nothing WRITTEN", x.count(4), written);
        int d = Due.dir(x, 0, "d");
        x.bar(d, true);
        Due.due("15: in a DIRECTORY that is read only", Due.file(x, d, "a") > 0 ? 1 : 0, 1);
        x.unmount();
        Due.due("15: STATE", Due.file(x, 77, "*"), STATE);
    }

    private static void full() {
        BitmapVolume x = Due.mounted(16);
        int a = Due.file(x, 0, "a");
        x.write(a, 0, 1024, 0);
        Due.due("16: all but one", x.write(a, 1024, 3 * 128, 0), 1408);
        Due.due("25: one is free", x.count(1), 1);
        int written = x.count(4);
        Due.due("15: a DIRECTORY needs two", Due.dir(x, 0, "d"), FULL);
        Due.due("16: two are not there", x.write(a, 1408, 129, 0), FULL);
        Due.due("15: nothing WRITTEN", x.count(4), written);
        Due.due("15: nothing is taken", x.count(1), 1);
        Due.due("15: a file needs one", Due.file(x, 0, "b"), 22);
        Due.due("25: none is free", x.count(1) * 10 + x.count(2), 0);
        Due.due("15: none", Due.file(x, 0, "c"), FULL);
        Due.due("16: none", x.write(22, 0, 1, 0), FULL);
        Due.due("19: none", Due.move(x, a, 0, "c"), FULL);
        Due.due("16: within what it has", x.write(a, 1400, 8, 0), 1408);
        Due.due("15: THERE before FULL", Due.file(x, 0, "B"), THERE);
        x.bar(a, true);
        Due.due("16: BARRED before FULL", x.write(a, 1408, 1, 0), BARRED);
        Due.due("19: BARRED before FULL", Due.move(x, a, 0, "c"), BARRED);
        x.bar(a, false);
        Due.due("17: one goes", x.cut(a, 1280), 1);
        Due.due("19: room again", Due.move(x, a, 0, "c") > 0 ? 1 : 0, 1);
        dueRight("16", x);
    }

    private static void writing() {
        BitmapVolume x = Due.mounted(20);
        int a = Due.file(x, 0, "a");
        x.clock(5);
        Due.due("16: 130", x.write(a, 0, 130, 250), 130);
        Due.due("16: CLUSTERS", Due.clusters(x, a), "6 7");
        Due.due("16: v + i", x.read(a, 0), 0x0100FFFEFDFCFBFAL);
        Due.due("16: over its edge", x.read(a, 126), 0x7B7A7978L);
        Due.due("16: the time of change", x.told(a, 7) * 10 + x.told(a, 8), 5);
        Due.due("16: within", x.write(a, 10, 1, -1), 130);
        Due.due("16: one OCTET", x.read(a, 9) & 0xFFFFFF, 0x05FF03L);
        Due.due("16: at LENGTH", x.write(a, 130, 126, 0), 256);
        Due.due("16: no CLUSTER came", x.count(1), 14);
        Due.due("16: its run goes on", x.write(a, 256, 1, 0), 257);
        Due.due("16: ONE RUN", Due.clusters(x, a) + "," + x.told(a, 3), "6 7 8,1");
        int b = Due.file(x, 0, "b");
        x.write(b, 0, 1, 1);
        Due.due("16: b", Due.clusters(x, b), "10");
        Due.due("16: a gets a chain", x.write(a, 257, 383, 0), 640);
        Due.due("16: by number", Due.clusters(x, a) + "," + x.told(a, 3), "6 7 8 11 12,0");
        int[][] fat = {{6, 7}, {7, 8}, {8, 11}, {11, 12}, {12, -1}, {10, 0}};
        for (int[] f : fat) Due.due("16: FAT " + f[0], Due.fat(x, f[0]), f[1]);
        Due.due("16: a chain goes on", x.write(a, 640, 1, 0), 641);
        Due.due("16: FAT", Due.fat(x, 12) * 100 + Due.fat(x, 13), 1299);
        Due.due("16: the greatest n", x.write(b, 0, 1024, 0), 1024);
        Due.due("16: b", Due.clusters(x, b), "10 14 15 16 17 18 19 20");
        dueRight("16", x);
    }

    private static void rows() {
        BitmapVolume x = Due.mounted(20);
        int a = Due.file(x, 0, "a");
        int b = Due.file(x, 0, "b");
        int c = Due.file(x, 0, "c");
        x.write(a, 0, 128, 0);
        x.write(b, 0, 128, 0);
        x.write(c, 0, 128, 0);
        int d = Due.file(x, 0, "d");
        x.write(d, 0, 10 * 100, 0);
        Due.due("16: a b c", Due.clusters(x, a) + "," + Due.clusters(x, b) + "," + Due.clusters(x, c), "8,9,10");
        Due.due("16: d", Due.clusters(x, d), "12 13 14 15 16 17 18 19");
        Due.due("25: free", x.count(1) * 100 + x.count(2), 202);
        x.cut(b, 0);
        x.cut(a, 0);
        x.cut(d, 7 * 128);
        Due.due("25: free", x.count(1) * 100 + x.count(2), 503);
        Due.due("16: the first row", x.write(a, 0, 300, 0), 300);
        Due.due("16: of three", Due.clusters(x, a), "19 20 21");
        Due.due("16: the first row", x.write(b, 0, 200, 0), 200);
        Due.due("16: of two", Due.clusters(x, b), "8 9");
        x.cut(a, 0);
        x.cut(b, 128);
        Due.due("16: no row of four: a chain at once", x.write(a, 0, 512, 0), 512);
        Due.due("16: by number", Due.clusters(x, a) + "," + x.told(a, 3), "9 19 20 21,0");
        Due.due("16: FAT", Due.fat(x, 9) * 1000000 + Due.fat(x, 19) * 10000 + Due.fat(x, 20) * 100 + Due.fat(x, 21), 19202099);
        dueRight("16", x);
    }

    private static void writingRefused() {
        BitmapVolume x = Due.mounted(20);
        int a = Due.file(x, 0, "a");
        int d = Due.dir(x, 0, "d");
        x.write(a, 0, 10, 0);
        int written = x.count(4);
        int[][] bad = {{0, 0, 1}, {d, 0, 1}, {a + 1, 0, 1}, {-1, 0, 1}, {a, -1, 1}, {a, 11, 1}, {a, 0, 0}, {a, 0, -5},
            {a, 0, 1025}, {a, Integer.MIN_VALUE, 1}, {a, Integer.MAX_VALUE, 1}, {a, 0, Integer.MAX_VALUE}};
        for (int[] b : bad) Due.due("16: write(" + b[0] + ", " + b[1] + ", " + b[2] + ")", x.write(b[0], b[1], b[2], 1), BAD);
        Due.due("16: nothing WRITTEN", x.count(4), written);
        x.bar(a, true);
        Due.due("16: BAD before BARRED", x.write(a, 11, 1, 1), BAD);
        Due.due("16: BARRED", x.write(a, 0, 1, 1), BARRED);
        x.unmount();
        Due.due("16: STATE", x.write(-1, 0, 1, 1), STATE);
    }

    private static void cutting() {
        BitmapVolume x = Due.mounted(20);
        int a = Due.file(x, 0, "a");
        x.write(a, 0, 300, 3);
        x.clock(8);
        Due.due("17: nothing goes", x.cut(a, 300), 0);
        Due.due("17: the time of change all the same", x.told(a, 8), 8);
        Due.due("17: within a CLUSTER", x.cut(a, 257), 0);
        Due.due("17: one goes", x.cut(a, 256), 1);
        Due.due("17: ONE RUN stays", Due.clusters(x, a) + "," + x.told(a, 3), "6 7,1");
        Due.due("17: BITMAP", x.octet(16, 0), 63);
        Due.due("17: OCTETS stay", Due.at(x, Due.address(4 * 8)), 3);
        int b = Due.file(x, 0, "b");
        x.write(b, 0, 1, 0);
        x.write(a, 256, 300, 0);
        Due.due("17: a chain", Due.clusters(x, a), "6 7 10 11 12");
        Due.due("17: two go", x.cut(a, 385 - 128), 2);
        Due.due("17: FAT", Due.fat(x, 7) * 1000000 + Due.fat(x, 10) * 10000 + Due.fat(x, 11) * 100 + Due.fat(x, 12), 9990000);
        Due.due("17: it stays a chain", x.told(a, 3), 0);
        Due.due("17: all go", x.cut(a, 0), 3);
        Due.due("17: no CLUSTER", x.told(a, 2) * 10 + x.told(a, 3), 0);
        Due.due("17: FAT", Due.fat(x, 6) + Due.fat(x, 7) + Due.fat(x, 10), 0);
        Due.due("17: none goes", x.cut(a, 0), 0);
        Due.due("17: read()", x.read(a, 0), 0);
        x.write(b, 0, 200, 0);
        Due.due("17: ONE RUN to nothing", x.cut(b, 0) * 10 + x.told(b, 3), 20);
        Due.due("17: above", x.cut(b, 1), BAD);
        Due.due("17: below", x.cut(b, -1), BAD);
        Due.due("17: no file", x.cut(0, 0), BAD);
        Due.due("17: no place", x.cut(b + 2, 0), BAD);
        x.bar(b, true);
        Due.due("17: BAD before BARRED", x.cut(b, 1), BAD);
        Due.due("17: BARRED", x.cut(b, 0), BARRED);
        dueRight("17", x);
        x.unmount();
        Due.due("17: STATE", x.cut(b, 1), STATE);
    }

    private static void dropping() {
        BitmapVolume x = Due.mounted(20);
        int a = Due.file(x, 0, "a");
        x.write(a, 0, 300, 3);
        int d = Due.dir(x, 0, "d");
        int e = Due.dir(x, d, "e");
        Due.due("18: a DIRECTORY that has SETS", x.drop(d), BAD);
        x.bar(d, true);
        Due.due("18: BAD before BARRED", x.drop(d), BAD);
        x.bar(e, true);
        Due.due("18: BARRED", x.drop(e), BARRED);
        x.bar(e, false);
        Due.due("18: e, in a DIRECTORY that is read only", x.drop(e), 1);
        Due.due("18: e went", x.told(e, 0), BAD);
        Due.due("18: again", x.drop(e), BAD);
        Due.due("18: a", x.drop(a), 3);
        Due.due("18: UNUSED", x.octet(21, 0) * 1000000 + x.octet(21, 32) * 1000 + x.octet(22, 0), 5064065);
        Due.due("18: ROOT", x.drop(0), BAD);
        Due.due("18: no place", x.drop(d + 1), BAD);
        Due.due("18: BARRED", x.drop(d), BARRED);
        x.bar(d, false);
        Due.due("18: d", x.drop(d), 1);
        Due.due("18: BITMAP", x.octet(16, 0) + 256 * x.octet(16, 1), 0b1_0000_1111);
        Due.due("18: the place is the first again", Due.dir(x, 0, "f"), a);
        dueRight("18", x);
        x.unmount();
        Due.due("18: STATE", x.drop(0), STATE);
    }

    private static void moving() {
        BitmapVolume x = Due.mounted(30);
        x.clock(1);
        int a = Due.file(x, 0, "a");
        x.write(a, 0, 300, 3);
        int d = Due.dir(x, 0, "d");
        int e = Due.dir(x, d, "e");
        x.clock(2);
        int b = Due.move(x, a, d, "bb");
        Due.due("19: b", Due.look(x, d, "BB"), b);
        Due.due("19: not in ROOT", Due.look(x, 0, "a"), NONE);
        Due.due("19: times as they were", x.told(b, 7) * 10 + x.told(b, 8), 11);
        Due.due("19: STREAM", Due.clusters(x, b) + "," + x.told(b, 1) + "," + x.told(b, 3), "6 7 8,300,1");
        Due.due("19: HASH", x.told(b, 5), Due.roll(Due.roll(Due.roll(Due.roll(0, 66), 0), 66), 0));
        Due.due("19: d took one: its time of change", x.told(d, 1) * 10 + x.told(d, 8), 2562);
        Due.due("19: its time of making", x.told(d, 7), 1);
        Due.due("19: the old one is UNUSED", x.octet(21, 0), 5);
        int c = Due.move(x, b, d, "BB");
        Due.due("19: itself does not count", c > 0 && c != b ? 1 : 0, 1);
        Due.due("19: it is there once", Due.look(x, d, "bb"), c);
        int f = Due.file(x, d, "f");
        Due.due("19: THERE", Due.move(x, c, d, "F"), THERE);
        Due.due("19: THERE", Due.move(x, d, 0, "D") > 0 ? 1 : 0, 1);
        d = Due.look(x, 0, "d");
        Due.due("19: the places in it stay", Due.look(x, d, "f"), f);
        Due.due("19: it is that", Due.move(x, d, d, "x"), BAD);
        Due.due("19: that is in it", Due.move(x, d, e, "x"), BAD);
        int g = Due.dir(x, e, "g");
        Due.due("19: deeper", Due.move(x, d, g, "x"), BAD);
        Due.due("19: up", Due.name(x, Due.move(x, g, 0, "h")), "h");
        g = Due.look(x, 0, "h");
        Due.due("19: d into it", Due.name(x, Due.move(x, d, g, "i")), "i");
        d = Due.look(x, g, "i");
        Due.due("19: now that is in it", Due.move(x, g, e, "x"), BAD);
        Due.due("19: f is there", Due.look(x, d, "f"), f);
        dueRight("19", x);
    }

    private static void movingRefused() {
        BitmapVolume x = Due.mounted(30);
        int a = Due.file(x, 0, "a");
        int d = Due.dir(x, 0, "d");
        x.bar(a, true);
        int written = x.count(4);
        Due.due("19: ROOT", Due.move(x, 0, d, "*"), BAD);
        Due.due("19: no place", Due.move(x, a + 1, d, "*"), BAD);
        Due.due("19: no DIRECTORY", Due.move(x, d, a, "*"), BAD);
        Due.due("19: NAME", Due.move(x, a, d, "*"), NAME);
        Due.due("19: no letters", x.move(a, d), NAME);
        Due.due("19: THERE before BARRED", Due.move(x, a, 0, "D"), THERE);
        Due.due("19: BARRED", Due.move(x, a, d, "a"), BARRED);
        Due.due("19: nothing WRITTEN", x.count(4), written);
        x.bar(a, false);
        x.bar(d, true);
        Due.due("19: into a DIRECTORY that is read only", Due.move(x, a, d, "a") > 0 ? 1 : 0, 1);
        x.unmount();
        Due.due("19: STATE", Due.move(x, 0, 0, "*"), STATE);
    }

    private static void barring() {
        BitmapVolume x = Due.mounted(20);
        x.clock(1);
        int a = Due.file(x, 0, "a");
        x.clock(2);
        int sum = x.told(a, 6);
        Due.due("20: it was not", x.bar(a, true), 0);
        Due.due("20: ATTRIBUTES", x.told(a, 0), 1);
        Due.due("20: the time of change stays", x.told(a, 8), 1);
        Due.due("20: THE SET'S SUM does not", x.told(a, 6) != sum ? 1 : 0, 1);
        Due.due("20: it was", x.bar(a, true), 1);
        Due.due("20: it was", x.bar(a, false), 1);
        Due.due("20: THE SET'S SUM", x.told(a, 6), sum);
        int d = Due.dir(x, 0, "d");
        x.bar(d, true);
        Due.due("20: a DIRECTORY", x.told(d, 0), 17);
        Due.due("20: ROOT", x.bar(0, true), BAD);
        Due.due("20: no place", x.bar(a + 1, true), BAD);
        dueRight("20", x);
        Due.due("20: so already", x.bar(d, true), 1);
        Due.due("20: D all the same", x.count(3), 1);
        x.unmount();
        Due.due("20: STATE", x.bar(0, true), STATE);
    }

    // ---- the order of WRITTEN SECTORS

    private static BitmapVolume twoFiles() {
        BitmapVolume x = Due.mounted(20);
        int a = Due.file(x, 0, "a");
        x.write(a, 0, 256, 1);
        int b = Due.file(x, 0, "b");
        x.write(b, 0, 10, 1);
        x.clock(3);
        return x;
    }

    private static BitmapVolume chain() {
        BitmapVolume x = twoFiles();
        x.write(18, 256, 256, 1);
        x.clock(4);
        return x;
    }

    private static BitmapVolume used() {
        BitmapVolume x = Due.mounted(20);
        int a = Due.file(x, 0, "a");
        x.write(a, 0, 256, 1);
        x.drop(a);
        return x;
    }

    private static BitmapVolume directory() {
        BitmapVolume x = Due.mounted(20);
        Due.file(x, 0, "a");
        Due.dir(x, 0, "d");
        return x;
    }

    private static BitmapVolume directoryWithOne() {
        BitmapVolume x = directory();
        Due.file(x, 22, "f");
        return x;
    }

    private static BitmapVolume runWithOne() {
        BitmapVolume x = used();
        Due.dir(x, 0, "d");
        Due.file(x, 18, "f");
        return x;
    }

    private static BitmapVolume far() {
        BitmapVolume x = Due.mounted(40);
        int a = Due.file(x, 0, "a");
        x.write(a, 0, 1024, 1);
        x.write(a, 1024, 512, 1);
        int b = Due.file(x, 0, "b");
        x.write(b, 0, 10, 1);
        return x;
    }

    private static void orders() {
        Due.Setup fresh = () -> Due.mounted(20);
        dueOrder("make a file", fresh, x -> Due.file(x, 0, "a"), "0 8 8 16 21 22");
        dueOrder("make a DIRECTORY", fresh, x -> Due.dir(x, 0, "a"), "0 8 8 16 21 24");
        dueOrder("make, old OCTETS go", ActsTest::used, x -> Due.dir(x, 0, "a"), "24 25 16 21 22");
        dueOrder("make, a chain comes", ActsTest::directoryWithOne, x -> Due.file(x, 22, "g"), "8 8 16 23 25 28 29");
        dueOrder("make, the run goes on", ActsTest::runWithOne, x -> Due.file(x, 18, "g"), "26 27 16 21 25 26 27");
        dueOrder("make, d's neighbour is taken", ActsTest::runWithOne, x -> Due.dir(x, 18, "g"), "26 27 8 8 16 21 25 28 29");
        dueOrder("write", ActsTest::twoFiles, x -> x.write(18, 256, 256, 1), "32 33 34 35 8 8 16 21");
        dueOrder("write within", ActsTest::twoFiles, x -> x.write(18, 60, 8, 9), "24 25 21");
        dueOrder("write with two SECTORS of FAT", ActsTest::far, x -> x.write(18, 1536, 256, 1), "52 53 54 55 8 9 9 16 21");
        dueOrder("cut ONE RUN", ActsTest::twoFiles, x -> x.cut(18, 1), "21 16");
        dueOrder("cut a chain", ActsTest::chain, x -> x.cut(18, 129), "21 8 16");
        dueOrder("cut nothing", ActsTest::chain, x -> x.cut(18, 512), "21");
        dueOrder("drop ONE RUN", ActsTest::twoFiles, x -> x.drop(18), "21 22 16");
        dueOrder("drop a chain", ActsTest::chain, x -> x.drop(18), "21 22 8 16");
        dueOrder("move", ActsTest::directory, x -> Due.move(x, 18, 22, "a"), "24 25 21 22");
        dueOrder("move, a chain comes", ActsTest::directoryWithOne, x -> Due.move(x, 18, 22, "b"), "8 8 16 23 25 28 29 21 22");
        dueOrder("bar", ActsTest::chain, x -> x.bar(18, true), "21");
        dueOrder("bar, D", () -> again(twoFiles()), x -> x.bar(18, true), "0 21");
        dueOrder("bar that is so", () -> again(twoFiles()), x -> x.bar(18, false), "0");
    }

    private static BitmapVolume again(BitmapVolume x) {
        x.unmount();
        x.mount();
        return x;
    }

    private static void dueOrder(String what, Due.Setup setup, Due.Act act, String order) {
        Due.due("3: " + what, Due.order(what, setup, act), order);
    }

    private static void directoriesGrow() {
        BitmapVolume x = runWithOne();
        x.clock(6);
        Due.file(x, 18, "g");
        Due.due("3: it stays ONE RUN", Due.clusters(x, 18) + "," + x.told(18, 3), "6 7,1");
        Due.due("3: LENGTH, time", x.told(18, 1) * 10 + x.told(18, 8), 2566);
        Due.due("3: FAT is not WRITTEN", Due.fat(x, 6), 0);
        Due.dir(x, 18, "h");
        Due.due("3: h took what was behind", Due.clusters(x, 18) + "," + x.told(18, 3), "6 7 9,0");
        Due.due("3: FAT", Due.fat(x, 6) * 10000 + Due.fat(x, 7) * 100 + Due.fat(x, 9), 70899);
        Due.due("3: the first is found", Due.look(x, 18, "f"), 24);
        dueRight("3", x);
    }

    private static void rowsOfEntries() {
        BitmapVolume x = Due.mounted(40);
        int d = Due.dir(x, 0, "d");
        int a = Due.file(x, d, "a");
        int b = Due.file(x, d, "a long name of its own");
        int c = Due.file(x, d, "c");
        Due.due("3: even places", (b - 4 * x.cluster(d, 1)) * 10 + c - 4 * x.cluster(d, 2), 0);
        x.drop(a);
        Due.due("3: a is UNUSED and a TYPE 1 behind it", Due.file(x, d, "another name of its own"), a);
        x.drop(b);
        Due.due("3: three of four", Due.file(x, d, "e"), b);
        Due.due("3: the fourth stays", Due.at(x, Due.address(b) + 96), 65);
        x.drop(a);
        Due.file(x, d, "f");
        Due.due("3: list", Due.name(x, x.list(d, 0)) + Due.name(x, x.list(d, 1)) + Due.name(x, x.list(d, 2)), "fec");
        dueRight("3", x);
    }

    private static void lastSector() {
        BitmapVolume x = Due.mounted(100);
        int a = Due.file(x, 0, "a");
        for (int i = 0; i < 12; i++) Due.due("16: write", x.write(a, 1024 * i, 1024, i), 1024 * (i + 1));
        Due.due("16: the last CLUSTER", x.cluster(a, 95), 101);
        Due.due("25: none is free", x.count(1), 0);
        Due.due("16: its last OCTET", x.octet(215, 63), 11 + 1023 & 255);
        x.cut(a, 12160);
        x.cut(a, 128);
        int b = Due.file(x, 0, "b");
        x.write(b, 0, 1, 0);
        for (int i = 0; i < 11; i++) x.write(a, 128 + 1024 * i, 1024, i);
        Due.due("16: all that is free", x.write(a, 11392, 640, 7), 12032);
        Due.due("16: a chain to the end", x.cluster(a, 93) * 100 - Due.fat(x, 100) + Due.fat(x, 101), 10100 - 101 - 1);
        dueRight("16", x);
        Due.due("8: all", x.octet(0, 49), 100);
    }

    public static void main(String[] args) {
        making();
        makingRefused();
        full();
        writing();
        rows();
        writingRefused();
        cutting();
        dropping();
        moving();
        movingRefused();
        barring();
        orders();
        directoriesGrow();
        rowsOfEntries();
        lastSector();
        Due.end();
    }
}
