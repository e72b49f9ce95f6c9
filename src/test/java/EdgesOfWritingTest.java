/** Boundary cases that "3 WRITING" names. */
public final class EdgesOfWritingTest {
    private static void by(String words) {
        Edge.by("3 WRITING", words);
    }

    // ---- PHASES

    private static void notSoYet() {
        by("What a call changes is WRITTEN in PHASES, in each the SECTORS that are not so yet, by rising numbers");
        Edge.due("c", Due.clusters(Edge.downward(), 40), "12 6");
        Edge.dueOrder("rising numbers", Edge::downward, x -> x.write(40, 0, 256, 77), "24 25 36 37");
        Edge.dueOrder("one SECTOR of four", Edge::downward, x -> x.write(40, 64, 1, 77), "37");
        Edge.dueOrder("the second SECTOR alone, the first one is so", () -> {
            BitmapVolume x = Edge.downward();
            x.write(40, 64, 1, 77);
            return x;
        }, x -> x.write(40, 0, 65, 1), "37");
        Edge.dueOrder("the last SECTOR of all", () -> {
            BitmapVolume x = Due.mounted(100);
            Due.file(x, 0, "a");
            for (int i = 0; i < 12; i++) x.write(18, 1024 * i, 1024, 0);
            return x;
        }, x -> x.write(18, 12160, 128, 99), "214 215");
        Edge.dueOrder("none: all is so", Edge::downward, x -> x.write(40, 0, 10, 1), "");
        Edge.dueOrder("the time alone", Edge::downward, x -> {
            x.clock(1);
            return x.write(40, 0, 10, 1);
        }, "32");
    }

    private static void dirty() {
        by("D: DIRTY in SECTOR 0 (if it is not; once since mount())");
        Edge.dueOrder("the first act", Edge::some, x -> x.write(22, 0, 10, 9), "0 30");
        Edge.dueOrder("the second act", () -> {
            BitmapVolume x = Edge.some();
            x.bar(40, false);
            return x;
        }, x -> x.write(22, 0, 10, 9), "30");
        Edge.dueOrder("DIRTY when it was mounted", () -> {
            BitmapVolume x = Due.base();
            x.spoil(0, 44, 2);
            x.mount();
            return x;
        }, x -> x.write(22, 0, 10, 9), "30");
        Edge.dueOrder("again behind unmount()", () -> {
            BitmapVolume x = Edge.some();
            x.bar(40, false);
            return Edge.again(x);
        }, x -> x.write(22, 0, 10, 9), "0 30");
        BitmapVolume x = Edge.some();
        x.write(22, 0, 1, 0);
        Edge.due("in SECTOR 0", x.octet(0, 44), 2);
        Edge.due("not in THE SECOND", x.octet(4, 44), 0);
    }

    /** CLUSTER 12 is free and has OCTETS that are not 0, in its second SECTOR. */
    private static BitmapVolume stale() {
        BitmapVolume x = Edge.some();
        x.write(40, 0, 128, 0);
        x.write(40, 0, 64, 0);
        x.cut(40, 0);
        x.unmount();
        for (int i = 0; i < 64; i++) x.spoil(36, i, 0);
        x.mount();
        x.bar(40, false);
        return x;
    }

    private static void newDirectories() {
        by("F: OCTETS of files, and new CLUSTERS of DIRECTORIES (all 0)");
        Edge.dueOrder("the SECTOR that is not 0", EdgesOfWritingTest::stale, x -> Due.dir(x, 34, "e"), "37 8 8 16 29 33 38 39");
        BitmapVolume x = stale();
        int e = Due.dir(x, 34, "e");
        Edge.due("it is at 12", x.told(e, 2), 12);
        int sum = 0;
        for (int i = 0; i < 128; i++) sum += Due.at(x, Due.address(48) + i);
        Edge.due("all 0", sum, 0);
        x = stale();
        x.write(40, 0, 1, 5);
        Edge.due("a file's new CLUSTER keeps what it had", x.octet(37, 63), 127);
    }

    private static void table() {
        by("T: the FAT (where CLUSTERS are taken in two PHASES: first that of those that come, END with them, and of a ONE RUN that gets a chain that of all of its own but the last one; then that of the last one that was there)");
        Due.Act grow = x -> x.write(18, 200, 312, 9);
        Edge.dueOrder("a ONE RUN gets a chain", Edge::some, grow, "0 27 36 37 38 39 8 8 16 21");
        BitmapVolume x = Edge.fails(Edge.some(), 7);
        Edge.due("power fails ahead of the first", grow.on(x), Edge.OFF);
        Edge.due("FAT 6, 7, 12, 13", fats(x, 6, 7, 12, 13), "0 0 0 0");
        x = Edge.fails(Edge.some(), 8);
        Edge.due("power fails between", grow.on(x), Edge.OFF);
        Edge.due("FAT 6, 7, 12, 13", fats(x, 6, 7, 12, 13), "7 0 13 -1");
        x = Edge.fails(Edge.some(), 9);
        Edge.due("power fails behind the second", grow.on(x), Edge.OFF);
        Edge.due("FAT 6, 7, 12, 13", fats(x, 6, 7, 12, 13), "7 12 13 -1");
        x = staleFat();
        x.fail(8);
        Edge.due("FAT of a ONE RUN is what it was: power fails between", grow.on(x), Edge.OFF);
        Edge.due("FAT 6, 7, 12, 13", fats(x, 6, 7, 12, 13), "7 20 13 -1");
        x = Edge.fails(chained(), 6);
        Edge.due("a chain: power fails between", x.write(18, 512, 256, 9), Edge.OFF);
        Edge.due("FAT 12, 13, 14, 15", fats(x, 12, 13, 14, 15), "13 -1 15 -1");
        Edge.dueOrder("a chain", EdgesOfWritingTest::chained, y -> y.write(18, 512, 256, 9), "40 41 42 43 8 8 16 21");
        Edge.dueOrder("a ONE RUN goes on", () -> {
            BitmapVolume y = Edge.some();
            y.write(40, 0, 128, 9);
            return y;
        }, y -> y.write(40, 128, 128, 9), "38 39 16 32");
        Edge.dueOrder("ROOT", () -> Due.mounted(20), y -> Due.file(y, 0, "a"), "0 8 8 16 21 22");
    }

    /** FAT of a ONE RUN is not looked at: here it is not 0. */
    private static BitmapVolume staleFat() {
        BitmapVolume x = Due.base();
        Due.setFat(x, 6, 19);
        Due.setFat(x, 7, 20);
        Due.setFat(x, 12, 21);
        x.mount();
        return x;
    }

    /** a is a chain 6 7 12 13. */
    private static BitmapVolume chained() {
        BitmapVolume x = Edge.some();
        x.write(18, 200, 312, 9);
        return x;
    }

    private static String fats(BitmapVolume x, int... clusters) {
        StringBuilder b = new StringBuilder();
        for (int c : clusters) b.append(b.length() == 0 ? "" : " ").append(Due.fat(x, c));
        return b.toString();
    }

    /** The BITMAP is SECTOR 54: a PHASE ends ahead of the next one, though its SECTORS have higher numbers. */
    private static void bitmapBehind() {
        by("What a call changes is WRITTEN in PHASES");
        Edge.dueOrder("write()", Edge::bitmapLast, x -> x.write(22, 100, 100, 9), "0 16 17 31 8 54 23");
        Edge.dueOrder("make()", Edge::bitmapLast, x -> Due.file(x, 34, "e"), "0 16 8 54 16 17 29 33");
        Edge.dueOrder("cut()", Edge::bitmapLast, x -> x.cut(18, 128), "0 21 54");
        Edge.dueOrder("drop()", Edge::bitmapLast, x -> x.drop(18), "0 21 22 54");
        Edge.dueOrder("move()", Edge::bitmapLast, x -> Due.move(x, 18, 34, "e"), "0 16 8 54 16 17 29 33 21 22");
    }

    // ---- fail(m)

    private static void failing() {
        by("fail(m): the m-th SECTOR that is WRITTEN from then on is not, nor any behind it; the call answers OFF, the volume is not mounted, nothing else is changed; power is there again at once.");
        for (int m = 1; m <= 6; m++) {
            BitmapVolume x = Edge.fails(Due.mounted(20), m);
            x.clock(5);
            Edge.due(m + ": OFF", Due.file(x, 0, "a"), Edge.OFF);
            Edge.due(m + ": WRITTEN", x.count(4), m - 1);
            Edge.due(m + ": not mounted", x.count(5), 0);
            Edge.due(m + ": THE DRAFT is empty", x.clear(), 0);
            Edge.due(m + ": fault()", x.fault(0), 0);
            Edge.due(m + ": power is there again", x.mend() >= 0 ? 1 : 0, 1);
            Edge.due(m + ": mount()", x.mount(), 1);
            int b = Due.file(x, 0, "b");
            Edge.due(m + ": the next call", b > 0 ? 1 : 0, 1);
            Edge.due(m + ": the time stays", x.told(b, 7), 5);
        }
        BitmapVolume x = Edge.fails(Due.mounted(20), 7);
        Edge.due("one more than are WRITTEN", Due.file(x, 0, "a"), 18);
        Edge.due("it fails in the next call", x.bar(18, true), Edge.OFF);
    }

    // ---- TO TAKE

    /**
     * N is 40; ROOT 4 to 11; p q r s t u v (18, 22, 26, ..) of which q is 14, s is 18, u is 22 to 41, the others are
     * empty: free are 12 13, 15 16 17, 19 20 21.
     */
    private static BitmapVolume rows() {
        BitmapVolume x = Due.mounted(40);
        for (int i = 0; i < 7; i++) Due.file(x, 0, "" + (char) ('p' + i));
        int[] clusters = {2, 1, 3, 1, 3};
        for (int i = 0; i < 5; i++) x.write(18 + 4 * i, 0, 128 * clusters[i], 0);
        x.write(38, 0, 1024, 0);
        x.write(38, 1024, 1024, 0);
        x.write(38, 2048, 512, 0);
        for (int i = 0; i < 5; i += 2) x.cut(18 + 4 * i, 0);
        return x;
    }

    private static final int Q = 22, S = 30, U = 38, V = 42;

    private static void dueTaken(String what, BitmapVolume x, int place, String clusters, int isRun) {
        Edge.due(what, Due.clusters(x, place) + "," + x.told(place, 3), clusters + "," + isRun);
        Edge.dueRight(what, x);
    }

    private static BitmapVolume wrote(int place, int at, int n) {
        BitmapVolume x = rows();
        Edge.due("write(" + place + ", " + at + ", " + n + ")", x.write(place, at, n, 1), at + n);
        return x;
    }

    private static void takesRow() {
        by("if it has none, and some k free ones stand in a row: the first such row; it is ONE RUN.");
        dueTaken("one", wrote(V, 0, 128), V, "12", 1);
        dueTaken("two: all of the first row", wrote(V, 0, 129), V, "12 13", 1);
        dueTaken("three: the first of two such rows", wrote(V, 0, 257), V, "15 16 17", 1);
        dueTaken("four: no such row", wrote(V, 0, 385), V, "12 13 15 16", 0);
        BitmapVolume x = wrote(V, 0, 385);
        Edge.due("it is a chain at once", fats(x, 12, 13, 15, 16), "13 15 16 -1");
        x = rows();
        x.cut(S, 0);
        Edge.due("four: seven stand in a row now", x.write(V, 0, 512, 1), 512);
        dueTaken("four", x, V, "15 16 17 18", 1);
    }

    private static void goesOn() {
        by("If it is ONE RUN, and the k behind its last one are free: these; it stays so.");
        dueTaken("three", wrote(Q, 128, 384), Q, "14 15 16 17", 1);
        by("(ROOT is never ONE RUN. FAT of ONE RUN is not written.)");
        Edge.due("FAT of ONE RUN", fats(wrote(Q, 128, 384), 14, 15, 16, 17), "0 0 0 0");
        Edge.due("FAT of ROOT, in a row", fats(rows(), 4, 5, 6, 7, 8, 9, 10, 11), "5 6 7 8 9 10 11 -1");
        Edge.due("ROOT, in a row", rows().told(0, 3), 0);
        by("Else the first k free ones by number; if it was ONE RUN its CLUSTERS get a chain first (that and the new ones: FAT; it is ONE RUN no more); a chain goes on with them, the last is END.");
        BitmapVolume x = wrote(Q, 128, 385);
        Edge.due("four: FAT", fats(x, 14, 12, 13, 15, 16), "12 13 15 16 -1");
        dueTaken("four: of the k behind it one is taken", x, Q, "14 12 13 15 16", 0);
        Edge.due("a chain goes on by number, though the one behind its last is free", x.write(Q, 513, 128, 1), 641);
        dueTaken("it has one more", x, Q, "14 12 13 15 16 17", 0);
        x = wrote(U, 2560, 1);
        Edge.due("ONE RUN that ends with N + 1: its FAT", fats(x, 22, 40, 41, 12), "23 41 12 -1");
        Edge.due("ONE RUN that ends with N + 1", x.cluster(U, 19) * 1000 + x.cluster(U, 20) * 10 + x.told(U, 3), 41120);
        Edge.dueRight("u", x);
        x = rows();
        x.write(V, 0, 128, 1);
        x.write(V, 128, 256, 1);
        dueTaken("of the two behind it one is taken", x, V, "12 13 15", 0);
    }

    /** d at 5, then 5 6, and 7 is free or not. */
    private static void directoryGoesOn() {
        by("If it is ONE RUN, and the k behind its last one are free: these; it stays so.");
        BitmapVolume x = Due.mounted(20);
        int a = Due.file(x, 0, "a");
        x.drop(a);
        int d = Due.dir(x, 0, "d");
        for (int i = 0; i < 3; i++) Due.file(x, d, "" + i);
        dueTaken("a DIRECTORY", x, d, "6 7 8", 1);
        Edge.due("its FAT", fats(x, 6, 7, 8), "0 0 0");
        Edge.due("its LENGTH", x.told(d, 1), 384);
        by("if it was ONE RUN its CLUSTERS get a chain first (that and the new ones: FAT; it is ONE RUN no more)");
        int b = Due.look(x, d, "2");
        x.write(b, 0, 1, 0);
        Due.file(x, d, "3");
        dueTaken("a DIRECTORY", x, d, "6 7 8 10", 0);
        Edge.due("its FAT", fats(x, 6, 7, 8, 10), "7 8 10 -1");
        by("Else the first k free ones by number");
        x = Edge.bitmapLast();
        x.write(22, 100, 100, 1);
        dueTaken("2 is the first of all", x, 22, "9 2", 0);
    }

    private static void toTheEnd() {
        by("If it is ONE RUN, and the k behind its last one are free: these; it stays so.");
        BitmapVolume x = Edge.some();
        x.write(40, 0, 1024, 1);
        Edge.due("two are left", x.count(1) * 10 + x.count(2), 22);
        Edge.due("to N + 1", x.write(40, 1024, 256, 1), 1280);
        dueTaken("to N + 1", x, 40, "12 13 14 15 16 17 18 19 20 21", 1);
        by("Else the first k free ones by number");
        x = Edge.some();
        x.write(40, 0, 1024, 1);
        x.cut(18, 0);
        Edge.due("behind N + 1", x.write(40, 1024, 257, 1), 1281);
        dueTaken("behind N + 1", x, 40, "12 13 14 15 16 17 18 19 6 7 20", 0);
    }

    private static void fewer() {
        by("With fewer than k free ones: FULL.");
        dueTaken("as many as there are", wrote(V, 0, 1024), V, "12 13 15 16 17 19 20 21", 0);
        BitmapVolume x = wrote(V, 0, 1024);
        Edge.due("none is left", x.count(1), 0);
        Edge.due("one more", x.write(V, 1024, 1, 1), Edge.FULL);
        x = wrote(Q, 128, 128);
        Edge.due("eight of seven, by an OCTET", x.write(V, 0, 897, 1), Edge.FULL);
        Edge.due("seven of seven", x.write(V, 0, 896, 1), 896);
        Edge.refused("eight of seven", () -> wrote(Q, 128, 128), y -> y.write(V, 0, 1024, 1), Edge.FULL);
    }

    // ---- TO FREE

    private static void frees() {
        by("a chain: FAT of those is 0, of the one before END; the BITMAP's bits are 0.");
        BitmapVolume x = wrote(Q, 128, 385);
        Edge.due("two of five", x.cut(Q, 384), 2);
        Edge.due("FAT", fats(x, 14, 12, 13, 15, 16), "12 13 -1 0 0");
        dueTaken("three are left", x, Q, "14 12 13", 0);
        Edge.due("all but the first", x.cut(Q, 1), 2);
        Edge.due("FAT", fats(x, 14, 12, 13), "-1 0 0");
        dueTaken("one is left: it stays a chain", x, Q, "14", 0);
        x = Edge.some();
        x.cut(18, 128);
        Edge.due("a bit", x.octet(16, 0), 255 - 32);
        Edge.due("FAT of ONE RUN is not written", fats(x, 6, 7), "0 0");
        by("A file with no CLUSTER left has no ONE RUN, no first CLUSTER.");
        x = Edge.some();
        x.cut(18, 0);
        Edge.due("ONE RUN", x.told(18, 2) * 10 + x.told(18, 3), 0);
        Edge.due("on the disk", x.octet(21, 33) * 1000 + x.octet(21, 52), 1000);
        dueTaken("ONE RUN", x, 18, "", 0);
        x = wrote(Q, 128, 385);
        Edge.due("a chain: all go", x.cut(Q, 0), 5);
        Edge.due("a chain: FAT", fats(x, 14, 12, 13, 15, 16), "0 0 0 0 0");
        dueTaken("a chain", x, Q, "", 0);
        Edge.due("it can be ONE RUN again", x.write(Q, 0, 512, 1), 512);
        dueTaken("ONE RUN again", x, Q, "12 13 14 15", 1);
        by("(PHASES T, B; behind E)");
        Edge.dueOrder("a chain", EdgesOfWritingTest::chained, y -> y.cut(18, 300), "21 8 16");
    }

    // ---- where a SET goes

    /** d has e, f, g at 0, 4, 8 of its places; f went. */
    private static BitmapVolume gap(String middle) {
        BitmapVolume x = Due.mounted(30);
        int d = Due.dir(x, 0, "d");
        Due.file(x, d, "e");
        int f = Due.file(x, d, middle);
        Due.file(x, d, "g");
        x.drop(f);
        return x;
    }

    private static void firstPlace() {
        by("A SET of m ENTRIES goes to the first place that is even from which on m ENTRIES are UNUSED or 0, in the DIRECTORY as it is");
        BitmapVolume x = gap("f");
        int d = x.list(0, 0);
        Edge.due("three", Due.file(x, d, "h"), 4 * x.cluster(d, 1));
        Edge.due("no CLUSTER came", x.told(d, 1), 384);
        Edge.dueRight("three", x);
        x = gap("f");
        Edge.due("four: an ENTRY of TYPE 1 stands behind the three", Due.file(x, d, "h".repeat(16)), 4 * x.cluster(d, 1));
        Edge.due("no CLUSTER came", x.told(d, 1), 384);
        Edge.dueRight("four", x);
        x = gap("f");
        Due.file(x, d, "h".repeat(30));
        Edge.due("four, of thirty letters: what is behind it stays", Due.look(x, d, "g"), 4 * x.cluster(d, 2));
        Edge.dueRight("four, of thirty letters", x);
        x = gap("f".repeat(30));
        Edge.due("three of four", Due.file(x, d, "h"), 4 * x.cluster(d, 1));
        Edge.due("the fourth stays UNUSED", Due.at(x, Due.address(4 * x.cluster(d, 1) + 3)), 65);
        Edge.dueRight("three of four", x);
        x = gap("f");
        x.drop(x.list(d, 0));
        Edge.due("the first of two rows", Due.file(x, d, "h"), 4 * x.cluster(d, 0));
        x = gap("f");
        x.drop(x.list(d, 1));
        Due.file(x, d, "h");
        Edge.due("0s and UNUSED ones are alike: no CLUSTER came", Due.file(x, d, "i") * 1000 + x.told(d, 1), 4000 * x.cluster(d, 2) + 384);
    }

    /** c moves from the places 0, 1, 2 of d to 2, 3, 4, in two CLUSTERS: ahead of it are two ENTRIES of TYPE 1. */
    private static BitmapVolume lateSet() {
        BitmapVolume x = Due.base();
        for (int i = 31; i >= 0; i--) Due.put(x, Due.address(48) + i, 1, Due.at(x, Due.address(42) + i));
        for (int i = 63; i >= 0; i--) Due.put(x, Due.address(42) + i, 1, Due.at(x, Due.address(40) + i));
        x.spoil(32, 0, 1);
        x.spoil(32, 32, 1);
        Edge.putLength(x, 29, 256);
        x.spoil(29, 33, 1);
        Due.seal(x, 29, 34);
        Due.setFat(x, 10, 12);
        Due.setFat(x, 12, Edge.END);
        x.spoil(16, 1, 7);
        x.mount();
        return x;
    }

    private static void twoAreTooFew() {
        by("goes to the first place that is even from which on m ENTRIES are UNUSED or 0");
        BitmapVolume x = lateSet();
        Edge.due("it is RIGHT", x.count(5), 1);
        Edge.due("c", x.list(34, 0), 42);
        int e = Due.file(x, 34, "e");
        Edge.due("two are UNUSED, place 5 is odd: place 6", e, 4 * 12 + 2);
        Edge.due("c stays", Due.look(x, 34, "c"), 42);
        Edge.due("d took one for its NAME", Due.clusters(x, 34), "10 12 13");
        Edge.due("place 5 got TYPE 1", Due.at(x, Due.address(49)), 1);
        Edge.dueRight("e", x);
    }

    private static void takesOne() {
        by("if there is none, the DIRECTORY takes one CLUSTER (its LENGTH, its time of change too; ROOT none of these), and the row may go into it.");
        BitmapVolume x = Due.mounted(30);
        x.clock(1);
        int d = Due.dir(x, 0, "d");
        x.clock(2);
        Due.file(x, d, "e");
        Edge.due("there is one: LENGTH, times", x.told(d, 1) * 100 + x.told(d, 7) * 10 + x.told(d, 8), 12811);
        x.clock(3);
        int f = Due.file(x, d, "f");
        Edge.due("there is none: LENGTH, times", x.told(d, 1) * 100 + x.told(d, 7) * 10 + x.told(d, 8), 25613);
        Edge.due("all of the row is in it", f, 4 * x.cluster(d, 1));
        x.clock(4);
        int g = Due.file(x, 0, "g");
        Edge.due("ROOT: the row goes into it", g, 4 * x.cluster(0, 1) + 2);
        Edge.due("ROOT: its NAME is the first ENTRY of it", Due.at(x, Due.address(4 * x.cluster(0, 2))), 193);
        Edge.due("ROOT: 384 OCTETS, no times", x.told(0, 1) * 100 + x.told(0, 7) * 10 + x.told(0, 8), 38400);
        Edge.dueRight("d", x);
        Edge.due("THE SET'S SUM of d holds", x.told(d, 8), 3);
    }

    private static void typesAhead() {
        by("ENTRIES ahead of it in the DIRECTORY (in ROOT from 2 on) whose TYPE is 0 get TYPE 1 with it.");
        BitmapVolume x = Due.mounted(30);
        int d = Due.dir(x, 0, "d");
        int e = Due.file(x, d, "e");
        Edge.due("the one behind e is 0", Due.at(x, Due.address(e + 3)), 0);
        int f = Due.file(x, d, "f");
        Edge.due("it gets 1", Due.at(x, Due.address(e + 3)), 1);
        Edge.due("the one behind f is 0", Due.at(x, Due.address(f + 3)), 0);
        Edge.due("ROOT's ENTRIES 0 and 1 stay", x.octet(20, 0) * 1000 + x.octet(20, 32), 129130);
        x.drop(e);
        Due.file(x, d, "g");
        Edge.due("behind it none changes", Due.at(x, Due.address(f + 3)), 0);
        Edge.due("an UNUSED one ahead stays", Due.at(x, Due.address(e + 3)), 1);
        Edge.dueRight("d", x);
        Edge.dueOrder("with it, in PHASE E", () -> {
            BitmapVolume y = Due.mounted(30);
            Due.file(y, Due.dir(y, 0, "d"), "e");
            return y;
        }, y -> Due.file(y, 18, "f"), "8 8 16 21 23 26 27");
    }

    public static void main(String[] args) {
        notSoYet();
        dirty();
        newDirectories();
        table();
        bitmapBehind();
        failing();
        takesRow();
        goesOn();
        directoryGoesOn();
        toTheEnd();
        fewer();
        frees();
        firstPlace();
        twoAreTooFew();
        takesOne();
        typesAhead();
        Due.end();
    }
}
