/** Boundary cases that "2 MOUNTING" and the promises 6 to 9 name: mount, fault, unmount, mend. */
public final class EdgesOfMountingTest {
    private static void by(String words) {
        Edge.by("2 MOUNTING", words);
    }

    // ---- the SETS of Due.base() become others, their SUMS are right then

    /** b: its NAME is LIKE a's. */
    private static void nameLikeA(BitmapVolume x) {
        x.spoil(28, 2, 'A');
        Due.put(x, 23 * 64 + 36, 2, Due.roll(Due.roll(0, 'A'), 0));
        Due.seal(x, 23, 28);
    }

    /** b: LENGTH, first CLUSTER, ONE RUN or not. */
    private static BitmapVolume withB(long length, long first, boolean isRun) {
        BitmapVolume x = Due.base();
        streamOfB(x, length, first, isRun);
        return x;
    }

    private static void streamOfB(BitmapVolume x, long length, long first, boolean isRun) {
        Edge.putLength(x, 23, length);
        Due.put(x, 23 * 64 + 52, 4, first);
        x.spoil(23, 33, isRun ? 3 : 1);
        Due.seal(x, 23, 28);
    }

    /** a: a chain 6, second, behind it what. */
    private static BitmapVolume withChain(long second, long what) {
        BitmapVolume x = Due.base();
        x.spoil(21, 33, 1);
        Due.seal(x, 21, 22);
        Due.setFat(x, 6, second);
        if (second >= 2 && second <= 21) Due.setFat(x, (int) second, what);
        return x;
    }

    // ---- 2 MOUNTING

    /** A volume with all FAULTS from a number on, those of 5 to 8 in the SET of b. */
    private static BitmapVolume faulty(int from) {
        BitmapVolume x = Due.base();
        x.spoil(16, 1, 131);
        if (from <= 8) x.spoil(28, 2, 'A');
        if (from <= 8) Due.put(x, 23 * 64 + 36, 2, Due.roll(Due.roll(0, 'A'), 0));
        if (from <= 7) x.spoil(23, 52, 6);
        if (from <= 6) x.spoil(23, 33, 1);
        if (from <= 5) x.spoil(23, 4, 2);
        Due.seal(x, 23, 28);
        if (from <= 4) x.spoil(20, 1, 1);
        if (from <= 3) Due.setFat(x, 11, 0);
        if (from <= 2) Due.setFat(x, 1, 0);
        if (from <= 1) x.spoil(0, 0, 0);
        if (from <= 1) x.spoil(4, 0, 0);
        return x;
    }

    private static void firstOfAll() {
        by("asks, in this order; the first that is not so is the FAULT (1 .. 9), its place is told");
        int[][] places = {{0, 0}, {1, 0}, {11, 0}, {4, 0}, {5, 2}, {5, 2}, {5, 2}, {5, 2}, {0, 0}};
        for (int number = 1; number <= 9; number++) {
            int[] place = places[number - 1];
            Edge.dueFault("all from " + number + " on", faulty(number), number, place[0], place[1]);
        }
        BitmapVolume x = faulty(2);
        x.spoil(0, 0, 0);
        Edge.dueFault("by THE SECOND", x, 2, 1, 0);
        x = faulty(4);
        x.spoil(20, 33, 1);
        Edge.dueFault("BITMAP before CASES", x, 4, 4, 0);
        x.spoil(20, 1, 0);
        Edge.dueFault("CASES", x, 4, 4, 1);
        x = faulty(2);
        Due.setFat(x, 0, 0);
        Edge.dueFault("FAT 0 before FAT 1", x, 2, 0, 0);
    }

    private static void regions() {
        by("1 a BOOT REGION is right: all OCTETS as told (N 16 .. 100, ROOT 2 .. N + 1; DIRTY or not; PERCENT 0 .. 100 or 255), the fourth SECTOR too: the first region is, or else THE SECOND (it is used then).");
        for (int root : new int[] {2, 5, 17}) {
            BitmapVolume x = Edge.rooted(16, root, 7);
            Edge.due("ROOT " + root, x.mount(), 1);
            Edge.due("ROOT " + root + " is told", x.told(0, 2), root);
            int a = Due.file(x, 0, "a");
            Edge.due("a file in it", a, 4 * root + 2);
            x.write(a, 0, 100, 1);
            Edge.dueRight("ROOT " + root, x);
        }
        for (int root : new int[] {0, 1, 22, 23, 102, 255}) {
            BitmapVolume x = Due.base();
            x.spoil(0, 36, root);
            Edge.resum(x);
            Edge.due("ROOT " + root + " of 20", x.mount(), 2);
        }
        BitmapVolume x = new BitmapVolume();
        x.format(50, 1);
        x.spoil(0, 32, 20);
        x.spoil(0, 16, 56);
        Edge.due("THE SUM is not so: THE SECOND", x.mount(), 2);
        Edge.due("its N is used", x.count(0), 50);
        x = Due.base();
        x.spoil(7, 63, 1);
        Edge.due("THE SECOND is not asked for", x.mount(), 1);
        x.unmount();
        x.spoil(3, 63, 1);
        Edge.dueFault("none is right", x, 1, 0, 0);
        Edge.dueFault("a new disk", new BitmapVolume(), 1, 0, 0);
    }

    private static void secondRegion() {
        by("the first region is, or else THE SECOND (it is used then).");
        int[][] rows = {{0, 1}, {44, 1}, {45, 1}, {49, 101}, {62, 1}, {127, 1}, {191, 1}, {255, 1}};
        for (int[] r : rows) {
            BitmapVolume x = Due.base();
            x.spoil(0, 0, 0);
            Due.put(x, 256 + r[0], 1, Due.at(x, 256 + r[0]) ^ 1);
            if (r[0] == 49) x.spoil(4, 49, 101);
            Edge.due("its OCTET " + r[0], x.mount(), -11);
        }
        BitmapVolume x = Due.base();
        x.spoil(0, 0, 0);
        x.spoil(4, 44, 2);
        x.spoil(4, 49, 100);
        Edge.due("it is DIRTY, and PERCENT is 100", x.mount(), 2);
    }

    private static void fatOfNone() {
        by("2 FAT 0 and 1.");
        long[][] rows = {{0, 0}, {0, Edge.END}, {0, Edge.END - 6}, {0, Edge.END - 8}, {1, 0}, {1, Edge.END - 1}, {1, Edge.END - 7}};
        for (long[] r : rows) {
            BitmapVolume x = Due.base();
            Due.setFat(x, (int) r[0], r[1]);
            Edge.dueFault("FAT " + r[0] + " is " + r[1], x, 2, (int) r[0], 0);
        }
    }

    private static void rootChain() {
        by("3 the chain of ROOT: numbers 2 .. N + 1, none twice, to END.");
        long[][] rows = {{11, 0, 11}, {11, 1, 11}, {11, 22, 11}, {11, Edge.END - 1, 11}, {11, 11, 11}, {11, 4, 11}, {11, 8, 11},
            {4, 4, 4}, {5, 4, 5}, {8, 12, 12}, {4, 0, 4}};
        for (long[] r : rows) {
            BitmapVolume x = Due.base();
            Due.setFat(x, (int) r[0], r[1]);
            Edge.dueFault("FAT " + r[0] + " is " + r[1], x, 3, (int) r[2], 0);
        }
        BitmapVolume x = Due.base();
        Due.setFat(x, 11, 21);
        Due.setFat(x, 21, Edge.END);
        Edge.dueFault("N + 1 may be in it", x, 9, 0, 0);
        x = Due.base();
        Due.setFat(x, 11, 2);
        Edge.dueFault("2 may be in it, but it is BITMAP's", x, 4, 4, 0);
        x = new BitmapVolume();
        x.format(16, 1);
        int[] rest = {5, 6, 7, 8, 9, 10, 11, 12, 13, 14, 15, 16, 17};
        int last = 4;
        for (int c : rest) {
            Due.setFat(x, last, c);
            last = c;
        }
        Due.setFat(x, last, Edge.END);
        Edge.due("all that are left: mend()", x.mend(), 1);
        Edge.due("all that are left: mount()", x.mount(), 1);
        Edge.due("all that are left: none is free", x.count(1), 0);
    }

    private static void bitmapAndCases() {
        by("each with a CLUSTER 2 .. N + 1 that is none of ROOT's (nor BITMAP's) and whose FAT is END");
        for (int c : new int[] {0, 1, 4, 5, 8, 11, 22, 255}) {
            BitmapVolume x = Due.base();
            x.spoil(20, 20, c);
            Edge.dueFault("BITMAP's is " + c, x, 4, 4, 0);
        }
        for (int c : new int[] {0, 1, 2, 4, 5, 8, 11, 22, 255}) {
            BitmapVolume x = Due.base();
            x.spoil(20, 52, c);
            Edge.dueFault("CASES' is " + c, x, 4, 4, 1);
        }
        for (long v : new long[] {0, 1, 3, 12, Edge.END - 1}) {
            BitmapVolume x = Due.base();
            Due.setFat(x, 2, v);
            Edge.dueFault("FAT 2 is " + v, x, 4, 4, 0);
            x = Due.base();
            Due.setFat(x, 3, v);
            Edge.dueFault("FAT 3 is " + v, x, 4, 4, 1);
        }
        BitmapVolume x = Edge.bitmapLast();
        Edge.due("N + 1 may be BITMAP's", x.count(5), 1);
        Edge.due("ten are free, nine of them in a row", x.count(1) * 10 + x.count(2), 109);
        Edge.due("2 is the first of them", x.write(40, 0, 128, 1) * 10 + x.cluster(40, 0), 1282);
        Edge.due("its bit", Due.at(x, Due.address(84)), 255);
        Edge.dueRight("BITMAP at N + 1", x);
    }

    private static void typesOfBase() {
        by("4 ROOT's ENTRIES 0 and 1: BITMAP, then CASES as told");
        for (int v : new int[] {0, 1, 128, 130, 133}) {
            BitmapVolume x = Due.base();
            x.spoil(20, 0, v);
            Edge.dueFault("ENTRY 0 has TYPE " + v, x, 4, 4, 0);
        }
        for (int v : new int[] {0, 2, 129, 131, 192}) {
            BitmapVolume x = Due.base();
            x.spoil(20, 32, v);
            Edge.dueFault("ENTRY 1 has TYPE " + v, x, 4, 4, 1);
        }
    }

    /** ROOT: d, e; d: f, which has g; e: h. Clusters by their places. */
    private static BitmapVolume deep(int[] places) {
        BitmapVolume x = Due.mounted(30);
        places[0] = Due.dir(x, 0, "d");
        places[1] = Due.dir(x, 0, "e");
        places[2] = Due.dir(x, places[0], "f");
        places[3] = Due.file(x, places[2], "g");
        places[4] = Due.file(x, places[1], "h");
        x.unmount();
        return x;
    }

    private static void breakSum(BitmapVolume x, int place) {
        Due.put(x, Due.address(place) + 2, 1, Due.at(x, Due.address(place) + 2) ^ 1);
    }

    private static void orderOfDirectories() {
        by("Then DIRECTORY by DIRECTORY, ROOT first, then in the order in which their SETS are met");
        int[] p = new int[5];
        BitmapVolume x = deep(p);
        breakSum(x, p[3]);
        Edge.dueFault("g in f in d", x, 5, p[3] / 4, p[3] % 4);
        breakSum(x, p[4]);
        Edge.dueFault("h in e is before it", x, 5, p[4] / 4, p[4] % 4);
        breakSum(x, p[2]);
        Edge.dueFault("f in d is before them", x, 5, p[2] / 4, p[2] % 4);
        breakSum(x, p[1]);
        Edge.dueFault("e in ROOT is before them", x, 5, p[1] / 4, p[1] % 4);
        breakSum(x, p[0]);
        Edge.dueFault("d in ROOT is before all", x, 5, p[0] / 4, p[0] % 4);
    }

    private static void entryByEntry() {
        by("ENTRY by ENTRY (in ROOT from 2 on; UNUSED ones are passed)");
        BitmapVolume x = Due.base();
        breakSum(x, 22);
        Edge.dueFault("b", x, 5, 5, 2);
        x.spoil(21, 33, 1);
        Due.seal(x, 21, 22);
        Edge.dueFault("a is before it, its 6 before b's 5", x, 6, 4, 2);
        x = Due.base();
        x.spoil(22, 32 + 31, 77);
        Edge.due("an UNUSED one just ahead of b, with its last OCTET", x.mount(), 1);
        x = Due.base();
        for (int type : new int[] {1, 5, 64, 65, 127}) {
            x.spoil(34, 32, type);
            x.spoil(35, 0, 128 - type);
            Edge.due("UNUSED " + type + " with whatever OCTETS", x.mount(), 1);
            x.unmount();
            x.spoil(34, 40, type);
        }
    }

    private static void lengthsOfSets() {
        by("LENGTH (at most 128 N)");
        int[][] rows = {{2560, 7}, {2561, 5}, {2559, 7}, {2688, 5}};
        for (int[] r : rows) Edge.dueFault("LENGTH " + r[0] + " of N 20", withB(r[0], 2, true), r[1], 5, 2);
        long[] great = {Edge.MOST, 1L << 31, Edge.END - 126, Edge.END, Long.MAX_VALUE, Long.MIN_VALUE, -1};
        for (long l : great) {
            Edge.dueFault("LENGTH " + l, withB(l, 9, true), 5, 5, 2);
            Edge.dueFault("LENGTH " + l + " of none", withB(l, 0, false), 5, 5, 2);
        }
        by("the first CLUSTER 2 .. N + 1 (or none)");
        for (long c : new long[] {0, 1, 22, 102, 65536 + 9, Edge.END}) {
            Edge.dueFault("ONE RUN from " + c, withB(100, c, true), 5, 5, 2);
            Edge.dueFault("a chain from " + c, withB(100, c, false), 5, 5, 2);
        }
        Edge.dueFault("from 2", withB(100, 2, true), 7, 5, 2);
        Edge.dueFault("from N + 1", withB(100, 21, true), 9, 0, 0);
        BitmapVolume x = withB(0, 0, false);
        x.spoil(16, 0, 127);
        Edge.due("none", x.mount(), 1);
    }

    private static void behindZero() {
        by("behind an ENTRY whose TYPE is 0 all TYPES in this DIRECTORY are 0.");
        for (int entry = 2; entry < 4; entry++) {
            for (int type : new int[] {1, 127, 128, 133, 255}) {
                BitmapVolume x = Due.base();
                x.spoil(35, 32 * (entry - 2), type);
                Edge.dueFault("TYPE " + type + " in ENTRY " + entry, x, 5, 11, entry);
            }
        }
        BitmapVolume x = Due.base();
        x.mount();
        int e = Due.file(x, 34, "e");
        x.unmount();
        Edge.due("d's ENTRY 3 got TYPE 1", x.octet(33, 32), 1);
        x.spoil(33, 32, 0);
        Edge.dueFault("in its next CLUSTER", x, 5, e / 4, 0);
        x = Due.base();
        x.spoil(21, 0, 0);
        Edge.dueFault("a SET's own STREAM", x, 5, 4, 3);
        x = Due.mounted(20);
        Due.dir(x, 0, "d");
        x.unmount();
        Edge.due("a DIRECTORY of 0s alone", x.mount(), 1);
        x.unmount();
        Due.put(x, Due.address(20) + 1, 1, 77);
        Edge.due("other OCTETS behind a 0 are free", x.mount(), 1);
    }

    private static void clustersOfSets() {
        by("6 its CLUSTERS: ONE RUN does not go behind N + 1");
        Edge.dueFault("20, 21", withB(256, 20, true), 9, 0, 0);
        Edge.dueFault("20, 21, 22", withB(257, 20, true), 6, 5, 2);
        Edge.dueFault("21", withB(128, 21, true), 9, 0, 0);
        Edge.dueFault("21, 22", withB(129, 21, true), 6, 5, 2);
        by("a chain has numbers 2 .. N + 1, END just behind as many as it has.");
        for (long c : new long[] {0, 1, 22, 111, Edge.END - 1, Edge.END}) Edge.dueFault("behind 6: " + c, withChain(c, 0), 6, 4, 2);
        Edge.due("6, 7, END", withChain(7, Edge.END).mount(), 1);
        Edge.dueFault("6, 21, END", withChain(21, Edge.END), 9, 0, 0);
        Edge.dueFault("6, 2, END", withChain(2, Edge.END), 7, 4, 2);
        for (long c : new long[] {0, 1, 6, 7, 12, 22, Edge.END - 1}) Edge.dueFault("6, 7, " + c, withChain(7, c), 6, 4, 2);
        Edge.dueFault("6, 6", withChain(6, 6), 6, 4, 2);
    }

    private static void metBefore() {
        by("7 none of them is one that was met (BITMAP's, CASES', ROOT's, or of a SET before, or twice in it).");
        for (int c : new int[] {2, 3, 4, 5, 6, 7, 8, 11}) Edge.dueFault("b at " + c, withB(100, c, true), 7, 5, 2);
        Edge.dueFault("b at 9, 10: it is d that comes behind", withB(129, 9, true), 7, 8, 2);
        Edge.dueFault("b at 12: b's own is free", withB(100, 12, true), 9, 0, 0);
        BitmapVolume x = Due.base();
        Edge.putLength(x, 32, 1);
        Due.put(x, 32 * 64 + 52, 4, 10);
        x.spoil(32, 33, 3);
        Due.seal(x, 32, 33);
        Edge.dueFault("c at that of its own DIRECTORY", x, 7, 10, 0);
    }

    private static void likeBefore() {
        by("8 no SET before in this DIRECTORY has a NAME that is LIKE it (as many letters, the great letters alike).");
        BitmapVolume x = Due.base();
        nameLikeA(x);
        Edge.dueFault("A behind a", x, 8, 5, 2);
        x = Due.base();
        x.spoil(28, 2, 'a');
        x.spoil(28, 4, 'a');
        x.spoil(23, 35, 2);
        Due.put(x, 23 * 64 + 36, 2, Due.roll(Due.roll(Due.roll(Due.roll(0, 'A'), 0), 'A'), 0));
        Due.seal(x, 23, 28);
        Edge.due("aa behind a", x.mount(), 1);
        x = Due.base();
        x.spoil(21, 0, 5);
        x.spoil(21, 32, 64);
        x.spoil(22, 0, 65);
        x.spoil(16, 0, 207);
        nameLikeA(x);
        Edge.due("A behind an a that is UNUSED", x.mount(), 1);
        x = Due.base();
        x.spoil(33, 2, 'd');
        Due.put(x, 32 * 64 + 36, 2, Due.roll(Due.roll(0, 'D'), 0));
        Due.seal(x, 32, 33);
        Edge.due("d in d", x.mount(), 1);
        x = Due.mounted(20);
        String name = "n".repeat(29);
        Due.file(x, 0, name + "o");
        int b = Due.file(x, 0, name + "p");
        x.unmount();
        Edge.due("they differ in the last of thirty letters", x.mount(), 1);
        x.unmount();
        Edge.due("the last letter of b", Due.u2(x, 24 * 64 + 62), 'p');
        x.spoil(24, 62, 'O');
        int s = 0;
        for (int i = 0; i < 30; i++) s = Due.roll(Due.roll(s, i < 29 ? 'N' : 'O'), 0);
        Due.put(x, 23 * 64 + 36, 2, s);
        Due.seal(x, 23, 24);
        Edge.dueFault("all thirty alike", x, 8, b / 4, b % 4);
    }

    private static void bitmapTells() {
        by("9 the BITMAP tells just the CLUSTERS that were met.");
        for (int i = 0; i < 24; i++) {
            BitmapVolume x = Due.base();
            x.spoil(16, i / 8, x.octet(16, i / 8) ^ 1 << i % 8);
            Edge.dueFault("bit " + i, x, 9, 0, 0);
            Edge.dueMend("bit " + i, x, 1);
            Edge.due("bit " + i + ": all", x.octet(16, 0) * 1000000 + x.octet(16, 1) * 1000 + x.octet(16, 2), 255003000);
        }
    }

    // ---- promise 6

    private static void mount() {
        String part = "6 mount";
        Edge.by(part, "MOUNTED: 1; 2: by THE SECOND BOOT REGION; - 10 less the FAULT.");
        Edge.due("1", Due.base().mount(), 1);
        BitmapVolume x = Due.base();
        x.spoil(0, 1, 0);
        Edge.due("2", x.mount(), 2);
        Edge.due("2: mounted", x.count(5), 1);
        Edge.due("-11", new BitmapVolume().mount(), -11);
        x = Due.base();
        x.spoil(16, 0, 0);
        Edge.due("-19", x.mount(), -19);
        Edge.due("-19: not mounted", x.count(5), 0);
        Edge.by(part, "STATE: it is mounted.");
        Edge.refused("mounted", Edge::some, y -> y.mount(), Edge.STATE);
        Edge.by(part, "(Nothing is WRITTEN.)");
        Due.Setup second = () -> {
            BitmapVolume y = Due.base();
            y.spoil(0, 1, 0);
            return Edge.fails(y, 1);
        };
        x = second.make();
        int written = x.count(4);
        Edge.due("power does not fail", x.mount(), 2);
        Edge.due("none", x.count(4), written);
        Edge.due("no SECTOR", Due.changed(Due.disk(second, y -> 0), Due.disk(second, y -> y.mount())), "");
        Edge.due("fail() holds", x.bar(18, true), Edge.OFF);
    }

    // ---- promise 7

    private static void fault() {
        String part = "7 fault";
        Edge.by(part, "0 before. BAD.");
        BitmapVolume x = Due.base();
        x.mount();
        x.unmount();
        x.mend();
        for (int i = 0; i < 3; i++) Edge.due("fault(" + i + ") before", x.fault(i), 0);
        for (int i : new int[] {-1, 3, Edge.LEAST, Edge.MOST}) Edge.refused("fault(" + i + ")", Due::base, y -> y.fault(i), Edge.BAD);
        Edge.by(part, "Of the latest mount(), mend() that met a FAULT");
        x.spoil(16, 0, 0);
        Edge.dueFault("mount()", x, 9, 0, 0);
        Due.setFat(x, 11, 0);
        Edge.due("mend()", x.mend(), -13);
        Edge.due("mend(): it", x.fault(0) * 1000 + x.fault(1) * 10 + x.fault(2), 3110);
        Due.setFat(x, 11, Edge.END);
        Edge.due("mend() mends", x.mend(), 1);
        Edge.due("mount() mounts", x.mount(), 1);
        Edge.due("mount() is refused", x.mount(), Edge.STATE);
        Edge.due("it stays", x.fault(0) * 1000 + x.fault(1) * 10 + x.fault(2), 3110);
        x.unmount();
        x.spoil(20, 32, 0);
        Edge.due("a later one", x.mount(), -14);
        Edge.due("it is another", x.fault(0) * 1000 + x.fault(1) * 10 + x.fault(2), 4041);
        x.spoil(0, 0, 0);
        x.spoil(4, 0, 0);
        Edge.due("the least", x.mend(), -11);
        Edge.due("its place is 0", x.fault(0) * 1000 + x.fault(1) * 10 + x.fault(2), 1000);
    }

    private static void placesOfFaults() {
        String part = "7 fault";
        Edge.by(part, "of 4: ROOT's first;");
        BitmapVolume x = Edge.rooted(16, 17, 1);
        Due.setFat(x, 3, 0);
        Edge.dueFault("ROOT is 17", x, 4, 17, 1);
        Edge.by(part, "of 3: that whose FAT is not so");
        x = Edge.rooted(16, 17, 1);
        Due.setFat(x, 17, 17);
        Edge.dueFault("ROOT's first", x, 3, 17, 0);
        Edge.by(part, "of 5 to 8: that in which the ENTRY lies; of 1, 9: 0), 2 its ENTRY in that (of 5: the first one of the SET, or that which can't stand there; of 6, 7, 8: the FILE; of 4: 0 BITMAP, 1 CASES; else 0)");
        x = Due.base();
        x.spoil(22, 5, 1);
        Edge.dueFault("an OCTET of its NAME, which lies in the next CLUSTER", x, 5, 4, 2);
        x = Due.base();
        x.spoil(21, 0, 5);
        Edge.dueFault("a STREAM without its FILE", x, 5, 4, 3);
        x.spoil(21, 32, 64);
        Edge.dueFault("a NAME without both", x, 5, 5, 0);
    }

    // ---- promise 8

    private static void unmount() {
        String part = "8 unmount";
        Edge.by(part, "Not mounted any more: 1.");
        BitmapVolume once = Edge.some();
        Edge.due("unmount()", once.unmount(), 1);
        Edge.due("count(5)", once.count(5), 0);
        Edge.due("again", once.unmount(), Edge.STATE);
        Edge.due("it can be mounted", once.mount(), 1);
        Edge.by(part, "STATE; OFF.");
        Edge.refused("a new object", BitmapVolume::new, x -> x.unmount(), Edge.STATE);
        Edge.refused("not mounted", Due::base, x -> x.unmount(), Edge.STATE);
        Due.Setup dirty = () -> Edge.fails(soiled(), 1);
        BitmapVolume x = dirty.make();
        Edge.due("power fails", x.unmount(), Edge.OFF);
        Edge.due("power fails: not mounted", x.unmount(), Edge.STATE);
        Edge.due("power fails: no SECTOR", Due.changed(Due.disk(dirty, y -> 0), Due.disk(dirty, y -> y.unmount())), "");
        Edge.due("power is there again", x.mount(), 1);
        Edge.due("it is DIRTY", x.count(3), 1);
        Edge.due("unmount()", x.unmount(), 1);
        Edge.by(part, "DIRTY becomes 0, PERCENT what it is (SECTOR 0: WRITTEN if it was not so).");
        Edge.dueOrder("both", EdgesOfMountingTest::soiled, y -> y.unmount(), "0");
        Edge.dueOrder("as it was", Edge::some, y -> y.unmount(), "");
        Edge.dueOrder("PERCENT alone", () -> spoiledMounted(0, 49, 51), y -> y.unmount(), "0");
        Edge.dueOrder("DIRTY alone", () -> spoiledMounted(0, 44, 2), y -> y.unmount(), "0");
        x = soiled();
        x.unmount();
        Edge.due("DIRTY, PERCENT", x.octet(0, 44) * 1000 + x.octet(0, 49), 50);
        Edge.due("not in THE SECOND", x.octet(4, 49), 255);
        x = Edge.fails(Edge.some(), 1);
        Edge.due("nothing is WRITTEN: power does not fail", x.unmount(), 1);
        x.mount();
        Edge.due("it holds", x.bar(18, true), Edge.OFF);
    }

    private static BitmapVolume soiled() {
        BitmapVolume x = Edge.some();
        x.bar(18, false);
        return x;
    }

    private static BitmapVolume spoiledMounted(int sector, int i, int v) {
        BitmapVolume x = Due.base();
        x.spoil(sector, i, v);
        x.mount();
        return x;
    }

    // ---- promise 9

    private static void mend(String words) {
        Edge.by("9 mend", words);
    }

    private static void mendCounts() {
        mend("MENDED: how many SETS and single ENTRIES went, and one more if the BITMAP was not as it has to be");
        Edge.dueMend("none", Due.base(), 0);
        BitmapVolume x = Due.base();
        x.spoil(16, 0, 0);
        Edge.dueMend("the BITMAP", x, 1);
        Edge.dueMend("a SET, and the BITMAP", withB(100, 6, true), 2);
        x = Due.base();
        breakSum(x, 40);
        Edge.dueMend("three ENTRIES of a SET without CLUSTERS", x, 3);
        x = Due.base();
        breakSum(x, 18);
        Edge.dueMend("three ENTRIES, and the BITMAP", x, 4);
        x = Due.base();
        breakSum(x, 18);
        x.spoil(16, 0, 207);
        Edge.dueMend("three ENTRIES, the BITMAP is as it has to be", x, 3);
        x = Due.base();
        nameLikeA(x);
        streamOfB(x, 0, 0, false);
        x.spoil(16, 0, 127);
        Edge.dueMend("a SET alone", x, 1);
    }

    private static void mendAsks() {
        mend("asks 1 to 4 as mount() (- 10 less the FAULT");
        Edge.due("1: mend()", new BitmapVolume().mend(), -11);
        int[][] rows = {{8, 0, 2, 0, 0}, {8, 4, 2, 1, 0}, {8, 44, 3, 11, 0}, {20, 0, 4, 4, 0}, {20, 32, 4, 4, 1}};
        for (int[] r : rows) {
            BitmapVolume x = Due.base();
            x.spoil(r[0], r[1], 77);
            x.spoil(16, 0, 0);
            int written = x.count(4);
            Edge.due(r[2] + ": mend()", x.mend(), -10 - r[2]);
            Edge.due(r[2] + ": nothing is WRITTEN", x.count(4), written);
            Edge.due(r[2] + ": fault()", x.fault(0) * 1000 + x.fault(1) * 10 + x.fault(2), r[2] * 1000 + r[3] * 10 + r[4]);
            Edge.due(r[2] + ": the BITMAP stays", x.octet(16, 0), 0);
        }
    }

    private static BitmapVolume lostRegion() {
        BitmapVolume x = Due.base();
        for (int s = 0; s < 4; s++) x.spoil(s, s % 2 * 63, 1 + s);
        x.spoil(16, 0, 0);
        return x;
    }

    private static void mendRegion() {
        mend("if THE SECOND is used, it is WRITTEN to the first region, first of all");
        Edge.dueOrder("all four SECTORS", EdgesOfMountingTest::lostRegion, x -> x.mend(), "0 1 2 3 16");
        Edge.dueOrder("ahead of PHASE T", () -> {
            BitmapVolume y = broken();
            y.spoil(1, 0, 9);
            y.spoil(3, 9, 9);
            return y;
        }, y -> y.mend(), "0 1 3 8 32 33 35 16");
        BitmapVolume x = lostRegion();
        Edge.due("they do not count", x.mend(), 1);
        Edge.due("PERCENT too", x.octet(0, 49), 255);
        int[] d = Due.disk(EdgesOfMountingTest::lostRegion, y -> y.mend());
        for (int i = 0; i < 256; i++) Edge.due("OCTET " + i, d[i], d[256 + i]);
        Edge.dueOrder("those that are not so", () -> {
            BitmapVolume y = Due.base();
            y.spoil(2, 63, 0);
            return y;
        }, y -> y.mend(), "0 2");
        x = Due.base();
        x.spoil(5, 1, 1);
        Edge.due("THE SECOND is not mended", x.mend() * 10 + x.octet(5, 1), 1);
    }

    private static void mendUnused() {
        mend("where one is not so, the SET becomes UNUSED (128 off each TYPE of its ENTRIES; of 128 itself: 1)");
        BitmapVolume x = withB(100, 6, true);
        x.mend();
        Edge.due("FILE, STREAM, NAME", x.octet(23, 0) * 1000000 + x.octet(23, 32) * 1000 + x.octet(28, 0), 5064065);
        Edge.due("its other OCTETS stay", x.octet(23, 52), 6);
        x = Due.mounted(20);
        Due.file(x, 0, "a".repeat(30));
        Due.file(x, 0, "b");
        x.write(18, 0, 1, 0);
        x.unmount();
        Due.put(x, 21 * 64 + 52, 4, 2);
        Due.seal(x, 21, 22);
        Edge.dueMend("two NAMES", x, 2);
        Edge.due("both", x.octet(22, 0) * 1000 + x.octet(22, 32), 65065);
        for (int type : new int[] {128, 129, 133, 255}) {
            x = Due.base();
            x.spoil(33, 32, type);
            Edge.dueMend("TYPE " + type, x, 1);
            Edge.due("TYPE " + type + " becomes", x.octet(33, 32), type == 128 ? 1 : type - 128);
        }
    }

    private static void mendNotMet() {
        mend("what is in it is not met (it stays on the disk)");
        int[] p = new int[5];
        BitmapVolume x = deep(p);
        breakSum(x, p[0]);
        Edge.dueMend("d's three ENTRIES, and the BITMAP", x, 4);
        Edge.due("f is no place", x.told(p[2], 0), Edge.BAD);
        Edge.due("g is no place", x.told(p[3], 0), Edge.BAD);
        Edge.due("they stay", Due.at(x, Due.address(p[2])) * 1000 + Due.at(x, Due.address(p[3])), 133133);
        Edge.due("their CLUSTERS are free", (Due.at(x, 1024 + (p[2] / 4 - 2) / 8) >> (p[2] / 4 - 2) % 8 & 1)
            + (Due.at(x, 1024 + (p[3] / 4 - 2) / 8) >> (p[3] / 4 - 2) % 8 & 1), 0);
        Edge.due("h is a place", x.told(p[4], 0), 0);
        x = withB(100, 6, true);
        x.mend();
        x.mount();
        Edge.due("b's own CLUSTER is free: the next row begins with it", x.write(40, 0, 1, 0) * 100 + x.cluster(40, 0), 109);
    }

    private static void mendEnd() {
        mend("but of 6 a chain whose CLUSTERS are such as may be, as many as it has, and just no END behind them: the FAT of its last one becomes END, which counts as one, if 7 and 8 say nothing against it");
        for (long c : new long[] {0, 1, 5, 12, 21, 22, Edge.END - 1}) {
            BitmapVolume x = withChain(7, c);
            Edge.dueMend("6, 7, " + c, x, 1);
            Edge.due("6, 7, " + c + ": END", Due.fat(x, 7), -1);
            Edge.due("6, 7, " + c + ": a", Due.clusters(x, 18), "6 7");
        }
        Edge.dueMend("END is too early: the SET, and the BITMAP", withChain(Edge.END, 0), 2);
        Edge.dueMend("22: the SET, and the BITMAP", withChain(22, 0), 2);
        Edge.dueMend("ONE RUN behind N + 1: the SET, and the BITMAP", withB(129, 21, true), 2);
        BitmapVolume x = withChain(6, 6);
        Edge.dueMend("twice in it: the SET, and the BITMAP", x, 2);
        Edge.due("twice in it: FAT stays", Due.fat(x, 6), 6);
        x = withChain(5, 8);
        Edge.dueMend("one that was met: the SET, and the BITMAP", x, 2);
        Edge.due("one that was met: FAT stays", Due.fat(x, 5), 8);
        x = Due.base();
        nameLikeA(x);
        streamOfB(x, 100, 9, false);
        Edge.dueMend("LIKE a: the SET, and the BITMAP", x, 2);
        Edge.due("LIKE a: FAT stays", Due.fat(x, 9), 0);
        x = withB(100, 12, false);
        Edge.dueMend("of one CLUSTER: END, and the BITMAP", x, 2);
        Edge.due("of one CLUSTER", Due.clusters(x, 22) + "," + Due.fat(x, 12), "12,-1");
        x = Due.base();
        x.spoil(29, 33, 1);
        Due.seal(x, 29, 34);
        Edge.dueMend("a DIRECTORY", x, 1);
        Edge.due("what is in it is met", x.list(34, 0), 40);
    }

    private static void mendEntries() {
        mend("of 5 just the ENTRY with which no SET begins, and it goes on with the next one");
        BitmapVolume x = Due.base();
        x.mount();
        x.drop(18);
        x.unmount();
        x.spoil(22, 0, 133);
        Edge.dueFault("a FILE alone ahead of b", x, 5, 5, 0);
        Edge.dueMend("it goes alone", x, 1);
        Edge.due("b stays", Due.look(x, 0, "b"), 22);
        x = Due.base();
        x.spoil(33, 32, 192);
        Edge.dueMend("a STREAM behind c", x, 1);
        Edge.due("c stays", x.list(34, 0), 40);
        x = Due.base();
        x.spoil(22, 0, 1);
        Edge.dueFault("a's NAME is UNUSED", x, 5, 4, 2);
        Edge.dueMend("FILE, STREAM, and the BITMAP", x, 3);
        mend("each TYPE that is not 0 behind a 0 becomes 0, and counts as an ENTRY");
        x = Due.base();
        x.spoil(35, 0, 1);
        x.spoil(35, 32, 133);
        x.spoil(35, 40, 9);
        Edge.dueMend("two", x, 2);
        Edge.due("both are 0", x.octet(35, 0) + x.octet(35, 32), 0);
        Edge.due("their OCTETS stay", x.octet(35, 40), 9);
        x = Due.base();
        x.spoil(21, 0, 0);
        Edge.dueMend("all of ROOT's: ten, and the BITMAP", x, 11);
        Edge.due("ROOT is empty", x.list(0, 0), Edge.NONE);
        Edge.due("what was in d stays on the disk", x.octet(32, 0), 133);
        Edge.due("four are taken by ROOT, two by BITMAP and CASES", x.count(1), 14);
    }

    private static BitmapVolume broken() {
        BitmapVolume x = withChain(7, 0);
        breakSum(x, 40);
        x.spoil(35, 32, 1);
        x.spoil(16, 2, 1);
        x.spoil(0, 44, 2);
        return x;
    }

    private static void mendPhases() {
        mend("PHASES T, E (all ENTRIES that change), B.");
        Edge.dueOrder("one of each", EdgesOfMountingTest::broken, x -> x.mend(), "8 32 33 35 16");
        Edge.dueOrder("none", Due::base, x -> x.mend(), "");
        Edge.dueOrder("the BITMAP lies behind", () -> {
            BitmapVolume y = Edge.off(Edge.bitmapLast());
            breakSum(y, 22);
            return y;
        }, y -> y.mend(), "23 28 54");
        mend("then the BITMAP becomes what was met.");
        BitmapVolume x = broken();
        Edge.due("six", x.mend(), 6);
        Edge.due("it is", x.octet(16, 0) * 1000000 + x.octet(16, 1) * 1000 + x.octet(16, 2), 255003000);
        mend("STATE: mounted; OFF. (FLAGS stay.)");
        Edge.due("DIRTY stays", x.octet(0, 44), 2);
        Edge.refused("mounted", Edge::some, y -> y.mend(), Edge.STATE);
        for (int m = 1; m <= 5; m++) {
            x = Edge.fails(broken(), m);
            Edge.due("power fails at " + m, x.mend(), Edge.OFF);
            Edge.due("power is there again at " + m, x.mend() >= 0 ? 1 : 0, 1);
            Edge.due("it is RIGHT at " + m, x.mount(), 1);
        }
        x = Edge.fails(broken(), 6);
        Edge.due("five are WRITTEN", x.mend(), 6);
        x = Edge.fails(Due.base(), 1);
        Edge.due("nothing is WRITTEN: power does not fail", x.mend(), 0);
    }

    public static void main(String[] args) {
        firstOfAll();
        regions();
        secondRegion();
        fatOfNone();
        rootChain();
        bitmapAndCases();
        typesOfBase();
        orderOfDirectories();
        entryByEntry();
        lengthsOfSets();
        behindZero();
        clustersOfSets();
        metBefore();
        likeBefore();
        bitmapTells();
        mount();
        fault();
        placesOfFaults();
        unmount();
        mendCounts();
        mendAsks();
        mendRegion();
        mendUnused();
        mendNotMet();
        mendEnd();
        mendEntries();
        mendPhases();
        Due.end();
    }
}
