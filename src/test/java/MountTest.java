/** Promises 6 to 9: mount, fault, unmount, mend. */
public final class MountTest {
    private static final long END = 4294967295L;

    private static void dueFault(String what, BitmapVolume x, int number, int cluster, int entry) {
        Due.due(what + ": mount()", x.mount(), -10 - number);
        Due.due(what + ": count(5)", x.count(5), 0);
        Due.due(what + ": fault(0)", x.fault(0), number);
        Due.due(what + ": fault(1)", x.fault(1), cluster);
        Due.due(what + ": fault(2)", x.fault(2), entry);
    }

    /** What is not right, and what mend() makes of it: the volume is RIGHT then. */
    private static void dueMend(String what, BitmapVolume x, int mended) {
        Due.due(what + ": mend()", x.mend(), mended);
        Due.due(what + ": mend() again", x.mend(), 0);
        Due.due(what + ": mount() behind it", x.mount(), 1);
    }

    private static void layout() {
        BitmapVolume x = Due.base();
        int written = x.count(4);
        Due.due("6: mount()", x.mount(), 1);
        Due.due("6: nothing WRITTEN", x.count(4), written);
        Due.due("6: mount() mounted", x.mount(), BitmapVolume.STATE);
        Due.due("9: mend() mounted", x.mend(), BitmapVolume.STATE);
        Due.due("ROOT", Due.clusters(x, 0), "4 5 8 11");
        Due.due("a", Due.clusters(x, 18), "6 7");
        Due.due("b", Due.clusters(x, 22), "9");
        Due.due("d", Due.clusters(x, 34), "10");
        Due.due("c", Due.clusters(x, 40), "");
    }

    private static void bootRegions() {
        for (int s = 0; s < 4; s++) {
            for (int i = 0; i < 64; i++) {
                if (s == 0 && (i == 44 || i == 49)) continue;
                BitmapVolume x = Due.base();
                x.spoil(s, i, x.octet(s, i) ^ 1);
                Due.due("6: OCTET " + i + " of SECTOR " + s, x.mount(), 2);
            }
        }
        int[][] rows = {{44, 0, 1}, {44, 2, 1}, {44, 1, 2}, {44, 3, 2}, {44, 4, 2}, {45, 2, 2},
            {49, 0, 1}, {49, 100, 1}, {49, 101, 2}, {49, 254, 2}, {49, 255, 1}};
        for (int[] r : rows) {
            BitmapVolume x = Due.base();
            x.spoil(0, r[0], r[1]);
            Due.due("6: OCTET " + r[0] + " is " + r[1], x.mount(), r[2]);
        }
        BitmapVolume x = Due.base();
        x.spoil(4, 0, 0);
        Due.due("6: THE SECOND is not asked for", x.mount(), 1);
        x.unmount();
        x.spoil(3, 63, 1);
        dueFault("7: no BOOT REGION", x, 1, 0, 0);
        Due.due("9: mend() without one", x.mend(), -11);
    }

    /** All OCTETS of each SECTOR in turn are others, one of the other three too. */
    private static void wholeRegion() {
        for (int s = 0; s < 4; s++) {
            int sector = s;
            int[] d = Due.disk(Due::base, x -> {
                for (int i = 0; i < 64; i++) x.spoil(sector, i, 255 - x.octet(sector, i));
                x.spoil(3 - sector, 5, 77);
                return x.mend();
            });
            int differ = 0;
            for (int i = 0; i < 256; i++) if (d[i] != d[256 + i]) differ++;
            Due.due("9: SECTOR " + s + " was gone, the region is THE SECOND's", differ, 0);
        }
    }

    private static void mountedBySecond() {
        BitmapVolume x = Due.base();
        x.spoil(0, 32, 50);
        Due.due("6: by THE SECOND", x.mount(), 2);
        Due.due("6: its N", x.count(0), 20);
        Due.due("25: not DIRTY", x.count(3), 0);
        x.bar(18, true);
        Due.due("3: DIRTY in SECTOR 0", x.octet(0, 44), 2);
        Due.due("3: not in SECTOR 4", x.octet(4, 44), 0);
        Due.due("8: unmount()", x.unmount(), 1);
        Due.due("8: PERCENT in SECTOR 0", x.octet(0, 49), 50);
        Due.due("8: the rest stays", x.octet(0, 32), 50);
        int written = x.count(4);
        Due.due("9: mend()", x.mend(), 0);
        Due.due("9: one SECTOR was WRITTEN", x.count(4), written + 1);
        Due.due("9: the first region", x.octet(0, 32), 20);
        Due.due("9: with THE SECOND's PERCENT", x.octet(0, 49), 255);
        Due.due("6: by the first", x.mount(), 1);
    }

    private static void fatFaults() {
        BitmapVolume x = Due.base();
        Due.setFat(x, 1, 0);
        dueFault("2: FAT 1", x, 2, 1, 0);
        Due.setFat(x, 0, END);
        dueFault("2: FAT 0", x, 2, 0, 0);
        Due.due("9: mend()", x.mend(), -12);
        long[][] rows = {{5, 0, 5}, {5, 1, 5}, {11, 4, 11}, {11, 11, 11}, {8, 22, 8}, {8, 21, 21}, {8, END - 1, 8}};
        for (long[] r : rows) {
            x = Due.base();
            Due.setFat(x, (int) r[0], r[1]);
            dueFault("3: FAT " + r[0] + " is " + r[1], x, 3, (int) r[2], 0);
            Due.due("9: mend()", x.mend(), -13);
            Due.due("7: of mend()", x.fault(1), r[2]);
        }
        x = Due.base();
        Due.setFat(x, 22, 7);
        x.spoil(15, 0, 7);
        Due.due("6: behind the FAT's N + 1", x.mount(), 1);
    }

    private static void baseEntries() {
        for (int i = 0; i < 64; i++) {
            BitmapVolume x = Due.base();
            x.spoil(20, i, x.octet(20, i) + (i == 20 ? 2 : 1));
            dueFault("4: OCTET " + i, x, 4, 4, i / 32);
            Due.due("9: mend()", x.mend(), -14);
        }
        int[][] rows = {{2, 0, 0}, {2, 3, 0}, {3, 0, 1}, {3, 2, 1}};
        for (int[] r : rows) {
            BitmapVolume x = Due.base();
            Due.setFat(x, r[0], r[1]);
            dueFault("4: FAT " + r[0] + " is " + r[1], x, 4, 4, r[2]);
        }
        int[][] others = {{20, 5, 0}, {20, 0, 0}, {20, 1, 0}, {20, 22, 0}, {52, 2, 1}, {52, 11, 1}, {52, 22, 1}};
        for (int[] r : others) {
            BitmapVolume x = Due.base();
            x.spoil(20, r[0], r[1]);
            dueFault("4: CLUSTER " + r[1], x, 4, 4, r[2]);
        }
        BitmapVolume x = Due.base();
        x.spoil(18, 5, 200);
        dueFault("4: CASES' SUM", x, 4, 4, 1);
    }

    private static void setFaults() {
        int[][] heads = {{0, 5}, {1, 3}, {4, 32}, {5, 1}, {6, 1}, {7, 1}, {16, 1}, {31, 1}, {32, 64}, {33, 2}, {33, 0},
            {34, 1}, {35, 0}, {35, 2}, {35, 16}, {36, 1}, {38, 1}, {39, 1}, {40, 201}, {44, 1}, {47, 1}, {48, 1},
            {51, 1}, {52, 0}, {52, 1}, {52, 22}, {53, 1}, {55, 1}, {56, 201}, {60, 1}, {63, 1}};
        for (int[] h : heads) {
            BitmapVolume x = Due.base();
            x.spoil(21, h[0], h[1]);
            if (h[0] != 1) Due.seal(x, 21, 22);
            if (h[0] == 0) Due.due("5: TYPE 5 is UNUSED, the next is not", x.mount(), -15);
            else dueFault("5: OCTET " + h[0] + " is " + h[1], x, 5, 4, 2);
        }
        int[][] tails = {{0, 65}, {1, 1}, {2, 0}, {2, 42}, {2, 32}, {2, 46}, {2, 31}, {2, 127}, {2, 159}, {3, 1}, {4, 98}, {31, 1}};
        for (int[] t : tails) {
            BitmapVolume x = Due.base();
            x.spoil(22, t[0], t[1]);
            int great = x.octet(22, 2) >= 97 && x.octet(22, 2) < 123 ? x.octet(22, 2) - 32 : x.octet(22, 2);
            Due.put(x, 21 * 64 + 36, 2, Due.roll(Due.roll(0, great), x.octet(22, 3)));
            Due.seal(x, 21, 22);
            dueFault("5: OCTET " + t[0] + " of the NAME is " + t[1], x, 5, 4, 2);
        }
        BitmapVolume x = Due.base();
        x.spoil(21, 8, 1);
        dueFault("5: THE SET'S SUM", x, 5, 4, 2);
        dueMend("9: FILE, STREAM, NAME and the BITMAP", x, 4);
        Due.due("9: a went", x.list(0, 0), 22);
        Due.due("9: its TYPES", x.octet(21, 0) * 1000000 + x.octet(21, 32) * 1000 + x.octet(22, 0), 5064065);
    }

    private static void numbersOfNames() {
        BitmapVolume x = Due.base();
        x.spoil(32, 1, 3);
        x.spoil(33, 32, 193);
        Due.seal(x, 32, 33);
        dueFault("5: a second NAME without letters", x, 5, 10, 0);
        x = Due.mounted(20);
        Due.file(x, 0, "0123456789abcde");
        int d = Due.file(x, 0, "0123456789abcdef");
        Due.due("5: 16 letters", x.octet(23, 1) * 1000 + d, 3022);
        x.unmount();
        Due.due("5: 15 and 16 letters", x.mount(), 1);
        x.unmount();
        x.spoil(23, 1, 2);
        Due.seal(x, 23, 24);
        dueFault("5: a second NAME lacks", x, 5, 5, 2);
    }

    private static void lengths() {
        int[][] rows = {{40, 2560, 6}, {40, 2561, 5}, {18, 0, 5}};
        for (int[] r : rows) {
            BitmapVolume x = Due.base();
            int head = r[0] == 40 ? 32 : 21;
            int tail = r[0] == 40 ? 33 : 22;
            Due.put(x, head * 64 + 40, 8, r[1]);
            Due.put(x, head * 64 + 56, 8, r[1]);
            if (r[0] == 40) Due.put(x, head * 64 + 52, 4, 20);
            Due.seal(x, head, tail);
            dueFault("5: LENGTH " + r[1], x, r[2], r[0] / 4, r[0] % 4);
        }
        BitmapVolume x = Due.base();
        x.spoil(32, 33, 3);
        Due.seal(x, 32, 33);
        dueFault("5: ONE RUN of none", x, 5, 10, 0);
        x = Due.base();
        Due.put(x, 29 * 64 + 40, 8, 100);
        Due.put(x, 29 * 64 + 56, 8, 100);
        Due.seal(x, 29, 34);
        dueFault("5: LENGTH of a DIRECTORY", x, 5, 8, 2);
        x = Due.base();
        x.spoil(32, 4, 16);
        Due.seal(x, 32, 33);
        dueFault("5: a DIRECTORY of none", x, 5, 10, 0);
        dueMend("9: its three ENTRIES", x, 3);
    }

    private static void placesOfSets() {
        BitmapVolume x = Due.base();
        x.spoil(33, 32, 133);
        dueFault("5: at an odd place", x, 5, 10, 3);
        dueMend("9: it goes alone", x, 1);
        Due.due("9: 128 off", x.octet(33, 32), 5);
        x = Due.base();
        x.spoil(33, 32, 128);
        dueFault("5: TYPE 128", x, 5, 10, 3);
        dueMend("9: it goes alone", x, 1);
        Due.due("9: of 128 itself 1", x.octet(33, 32), 1);
        x = Due.base();
        x.spoil(35, 32, 1);
        dueFault("5: behind a TYPE 0", x, 5, 11, 3);
        dueMend("9: one ENTRY", x, 1);
        Due.due("9: it is 0", x.octet(35, 32), 0);
        x = Due.base();
        x.spoil(32, 0, 0);
        dueFault("5: a SET behind a TYPE 0", x, 5, 10, 1);
        dueMend("9: STREAM and NAME", x, 2);
        Due.due("9: they are 0", x.octet(32, 32) + x.octet(33, 0), 0);
        x = Due.base();
        x.spoil(35, 32, 127);
        x.spoil(35, 0, 5);
        x.spoil(34, 32, 127);
        Due.due("5: UNUSED ones are passed", x.mount(), 1);
    }

    private static void clusterFaults() {
        BitmapVolume x = Due.base();
        Due.put(x, 21 * 64 + 52, 4, 21);
        Due.seal(x, 21, 22);
        dueFault("6: ONE RUN behind N + 1", x, 6, 4, 2);
        dueMend("9: the SET and the BITMAP", x, 2);
        int[][] ends = {{0, 1}, {1, 1}, {22, 1}, {5, 1}};
        for (int[] e : ends) {
            x = Due.base();
            chainOfA(x, e[0]);
            dueFault("6: no END but " + e[0], x, 6, 4, 2);
            dueMend("9: END", x, e[1]);
            Due.due("9: FAT 7", Due.fat(x, 7), -1);
            Due.due("9: a is there", Due.clusters(x, 18), "6 7");
        }
        x = Due.base();
        chainOfA(x, -1);
        Due.due("6: a chain", x.mount(), 1);
        x = Due.base();
        chainOfA(x, -1);
        Due.setFat(x, 6, END);
        dueFault("6: END too early", x, 6, 4, 2);
        dueMend("9: the SET and the BITMAP", x, 2);
        x = Due.base();
        chainOfA(x, -1);
        Due.setFat(x, 6, 6);
        dueFault("6: in a ring", x, 6, 4, 2);
        dueMend("9: twice in it: the SET and the BITMAP", x, 2);
    }

    /** a becomes a chain: 6, 7, what. */
    private static void chainOfA(BitmapVolume x, int what) {
        x.spoil(21, 33, 1);
        Due.seal(x, 21, 22);
        Due.setFat(x, 6, 7);
        Due.setFat(x, 7, what);
    }

    private static void doubles() {
        int[][] rows = {{2, 1}, {3, 1}, {4, 1}, {11, 1}, {6, 1}, {7, 1}};
        for (int[] r : rows) {
            BitmapVolume x = Due.base();
            Due.put(x, 23 * 64 + 52, 4, r[0]);
            Due.seal(x, 23, 28);
            dueFault("7: b at " + r[0], x, 7, 5, 2);
            dueMend("9: the SET and the BITMAP", x, 2);
            Due.due("9: b went", Due.look(x, 0, "b"), BitmapVolume.NONE);
        }
        BitmapVolume x = Due.base();
        x.spoil(28, 2, 65);
        Due.put(x, 23 * 64 + 36, 2, 32768 + 32);
        Due.seal(x, 23, 28);
        dueFault("8: A is LIKE a", x, 8, 5, 2);
        dueMend("9: the SET and the BITMAP", x, 2);
        Due.due("9: a stays", Due.look(x, 0, "A"), 18);
        x = Due.base();
        x.spoil(33, 2, 97);
        Due.put(x, 32 * 64 + 36, 2, 32768 + 32);
        Due.seal(x, 32, 33);
        Due.due("8: not in another DIRECTORY", x.mount(), 1);
    }

    private static void endlessAndDouble() {
        BitmapVolume x = Due.base();
        x.spoil(23, 33, 1);
        Due.put(x, 23 * 64 + 52, 4, 7);
        Due.seal(x, 23, 28);
        dueFault("6: before 7", x, 6, 5, 2);
        Due.due("9: 7 says against it", x.mend(), 2);
        Due.due("9: FAT stays", Due.fat(x, 7), 0);
    }

    private static void orderOfDirectories() {
        BitmapVolume x = Due.base();
        x.spoil(32, 8, 9);
        x.spoil(21, 33, 1);
        Due.seal(x, 21, 22);
        dueFault("6 in ROOT is before 5 in d", x, 6, 4, 2);
        x = Due.base();
        x.spoil(16, 1, 0);
        x.spoil(32, 8, 9);
        dueFault("5 is before 9", x, 5, 10, 0);
        dueMend("9: three ENTRIES and the BITMAP", x, 4);
        x = Due.base();
        x.spoil(29, 8, 9);
        x.mend();
        x.mount();
        Due.due("9: what is in d is not met", x.told(40, 1), BitmapVolume.BAD);
        Due.due("9: it stays on the disk", x.octet(32, 0), 133);
    }

    private static void bits() {
        int[][] rows = {{0, 254}, {0, 251}, {1, 0}, {1, 255}, {2, 1}, {2, 16}, {2, 128}};
        for (int[] r : rows) {
            BitmapVolume x = Due.base();
            x.spoil(16, r[0], r[1]);
            dueFault("9: OCTET " + r[0] + " is " + r[1], x, 9, 0, 0);
            dueMend("9: the BITMAP", x, 1);
            Due.due("9: it is", x.octet(16, 0) * 1000000 + x.octet(16, 1) * 1000 + x.octet(16, 2), 255003000);
        }
        BitmapVolume x = Due.base();
        x.spoil(16, 3, 1);
        Due.due("6: behind the BITMAP", x.mount(), 1);
        x.unmount();
        x.spoil(16, 2, 1);
        Due.due("9: it stays", x.mend() * 10 + x.octet(16, 3), 11);
    }

    private static void faultStays() {
        BitmapVolume x = Due.base();
        Due.due("7: none yet", x.fault(0), 0);
        Due.due("7: fault(-1)", x.fault(-1), BitmapVolume.BAD);
        Due.due("7: fault(3)", x.fault(3), BitmapVolume.BAD);
        Due.setFat(x, 11, 0);
        x.mend();
        Due.due("7: of mend()", x.fault(0) * 100 + x.fault(1), 311);
        Due.setFat(x, 11, END);
        x.mount();
        Due.due("7: it stays", x.fault(0) * 100 + x.fault(1), 311);
    }

    private static void unmounting() {
        BitmapVolume x = Due.base();
        Due.due("8: not mounted", x.unmount(), BitmapVolume.STATE);
        Due.due("8: DIRTY is 0", x.octet(0, 44), 0);
        Due.due("8: PERCENT", x.octet(0, 49), 50);
        x.mount();
        int written = x.count(4);
        Due.due("8: unmount()", x.unmount(), 1);
        Due.due("8: it was so", x.count(4), written);
        x.spoil(0, 44, 2);
        x.mount();
        Due.due("25: DIRTY", x.count(3), 1);
        x.bar(18, true);
        Due.due("3: D is not WRITTEN again", x.count(4), written + 1);
        x.fail(1);
        Due.due("8: unmount() fails", x.unmount(), BitmapVolume.OFF);
        Due.due("8: not mounted", x.count(5), 0);
        Due.due("8: DIRTY as it was", x.octet(0, 44), 2);
        Due.due("9: mend()", x.mend(), 0);
        Due.due("9: FLAGS stay", x.octet(0, 44), 2);
        x = Due.mounted(100);
        x.unmount();
        Due.due("8: 3 of 100", x.octet(0, 49), 3);
        x = Due.mounted(16);
        x.unmount();
        Due.due("8: 3 of 16, cut", x.octet(0, 49), 18);
    }

    private static BitmapVolume broken() {
        BitmapVolume x = Due.base();
        chainOfA(x, 0);
        x.spoil(32, 8, 9);
        x.spoil(35, 32, 1);
        x.spoil(16, 2, 1);
        x.spoil(1, 5, 1);
        x.spoil(0, 5, 1);
        return x;
    }

    private static void phases() {
        Due.due("9: PHASES", Due.order("mend()", MountTest::broken, x -> x.mend()), "0 1 8 32 33 35 16");
        BitmapVolume x = broken();
        Due.due("9: an END, a 1 behind a 0, three ENTRIES, the BITMAP", x.mend(), 6);
        Due.due("8: PHASES", Due.order("unmount()", () -> Due.mounted(16), y -> y.unmount()), "0");
    }

    private static void secondAndFault() {
        BitmapVolume x = Due.base();
        x.spoil(0, 5, 1);
        Due.setFat(x, 0, 1);
        int written = x.count(4);
        Due.due("9: a FAULT of 2", x.mend(), -12);
        Due.due("9: refused, nothing is WRITTEN", x.count(4), written);
    }

    public static void main(String[] args) {
        layout();
        bootRegions();
        wholeRegion();
        mountedBySecond();
        fatFaults();
        baseEntries();
        setFaults();
        numbersOfNames();
        lengths();
        placesOfSets();
        clusterFaults();
        doubles();
        endlessAndDouble();
        orderOfDirectories();
        bits();
        faultStays();
        unmounting();
        phases();
        secondAndFault();
        Due.end();
    }
}
