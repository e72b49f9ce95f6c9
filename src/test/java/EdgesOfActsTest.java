/** Boundary cases that the promises 15 to 20 name: make, write, cut, drop, move, bar; and "4 CALLS" of them. */
public final class EdgesOfActsTest {
    private static final int[] NO_PLACES = {Edge.LEAST, -18, -1, 1, 2, 3, 16, 17, 19, 20, 21, 23, 24, 32, 33, 35, 41, 42, 43, 44, 48, 84, 87, 88, 407, 408, 1 << 30, Edge.MOST};

    /** Edge.full(), but k CLUSTERS are free. */
    private static BitmapVolume left(int k) {
        BitmapVolume x = Edge.full();
        if (k > 0) x.cut(18, 1536 - 128 * k);
        return Edge.again(x);
    }

    /** Likewise, and d has room for a SET, as c went. */
    private static BitmapVolume leftWithRoom(int k) {
        BitmapVolume x = left(k);
        x.drop(40);
        return Edge.again(x);
    }

    // ---- promise 15

    private static void make(String words) {
        Edge.by("15 make", words);
    }

    private static void makes() {
        make("A new file, or DIRECTORY (one CLUSTER, all 0): its PLACE. Both times are now");
        BitmapVolume x = Edge.some();
        x.clock(-7);
        int e = Due.file(x, 0, "e");
        Edge.due("a file", e, 4 * 11 + 2);
        int[] file = {0, 0, 0, 0, 1, x.told(e, 5), x.told(e, 6), -7, -7};
        for (int i = 0; i < 9; i++) Edge.due("a file: told(" + i + ")", x.told(e, i), file[i]);
        int f = Due.dir(x, 0, "f");
        int[] directory = {16, 128, 13, 1, 1, x.told(f, 5), x.told(f, 6), -7, -7};
        for (int i = 0; i < 9; i++) Edge.due("a DIRECTORY: told(" + i + ")", x.told(f, i), directory[i]);
        Edge.due("it has no SETS", x.list(f, 0), Edge.NONE);
        Edge.due("one CLUSTER", Due.clusters(x, f), "13");
        Edge.dueRight("both", x);
    }

    private static void makeTakes() {
        make("PHASES D F T B E: the DIRECTORY's CLUSTER first, then, if it has to, that in which it is takes one.");
        BitmapVolume x = Edge.some();
        int e = Due.dir(x, 0, "e");
        Edge.due("e first", Due.clusters(x, e), "12");
        Edge.due("then ROOT", Due.clusters(x, 0), "4 5 8 11 13");
        x = Edge.some();
        x.drop(18);
        x.drop(40);
        e = Due.dir(x, 34, "e");
        Edge.due("d has room", Due.clusters(x, e) + "," + Due.clusters(x, 34), "6,10");
        Edge.dueOrder("both take one", Edge::some, y -> Due.dir(y, 0, "e"), "0 8 8 16 34 35 38");
        Edge.dueOrder("d has room", () -> leftWithRoom(1), y -> Due.dir(y, 34, "e"), "0 54 55 16 32 33");
        Edge.dueOrder("a file, and d has room", () -> leftWithRoom(0), y -> Due.file(y, 34, "e"), "0 32 33");
    }

    /** A DIRECTORY went: what comes next takes its CLUSTER (12), whatever call it is. */
    private static void takesAgain() {
        make("the DIRECTORY's CLUSTER first, then, if it has to, that in which it is takes one.");
        Due.Act[] acts = {x -> Due.dir(x, 0, "f"), x -> x.write(40, 0, 1, 1), x -> Due.move(x, 18, 34, "f"), x -> Due.file(x, 34, "f")};
        int[] holders = {46, 40, 34, 34};
        int[] which = {0, 0, 1, 1};
        for (int i = 0; i < acts.length; i++) {
            BitmapVolume x = Edge.some();
            int e = Due.dir(x, 0, "e");
            Edge.due("e", x.told(e, 2), 12);
            x.drop(e);
            Edge.due("act " + i, acts[i].on(x) > 0 ? 1 : 0, 1);
            Edge.due("act " + i + " takes 12", x.cluster(holders[i], which[i]), 12);
            Edge.dueRight("act " + i, x);
        }
    }

    private static void makeFull() {
        make("FULL (nothing is taken)");
        Edge.refusedWith("e", "a file in ROOT, none is free", () -> left(0), x -> x.make(0, false), Edge.FULL);
        Edge.refusedWith("e", "a file in d, none is free", () -> left(0), x -> x.make(34, false), Edge.FULL);
        Edge.refusedWith("e", "a DIRECTORY in ROOT, none is free", () -> left(0), x -> x.make(0, true), Edge.FULL);
        Edge.refusedWith("e", "a DIRECTORY in ROOT, one is free", () -> left(1), x -> x.make(0, true), Edge.FULL);
        Edge.refusedWith("e", "a DIRECTORY in d, one is free", () -> left(1), x -> x.make(34, true), Edge.FULL);
        Edge.refusedWith("e", "a DIRECTORY in d, which has room, none is free", () -> leftWithRoom(0), x -> x.make(34, true), Edge.FULL);
        Object[][] rows = {{left(1), 0, false}, {left(1), 34, false}, {left(2), 0, true}, {left(2), 34, true}, {leftWithRoom(0), 34, false}, {leftWithRoom(1), 34, true}};
        for (Object[] r : rows) {
            BitmapVolume x = (BitmapVolume) r[0];
            String what = (boolean) r[2] ? "a DIRECTORY" : "a file";
            int e = Due.say(x, "e").make((int) r[1], (boolean) r[2]);
            Edge.due(what + " in " + r[1] + ", as many are free as it takes", Due.look(x, (int) r[1], "E"), e);
            Edge.due(what + " in " + r[1] + ": none is free", x.count(1), 0);
            Edge.dueRight(what + " in " + r[1], x);
        }
    }

    private static void makeRefused() {
        make("STATE; BAD: no DIRECTORY; NAME; THERE; FULL (nothing is taken); OFF.");
        for (int p : NO_PLACES) Edge.refusedWith("e", "make(" + p + ")", Edge::some, x -> x.make(p, false), Edge.BAD);
        for (int p : new int[] {18, 22, 40}) Edge.refusedWith("e", "make in the file " + p, Edge::some, x -> x.make(p, true), Edge.BAD);
        for (String s : new String[] {"", "e.", "e ", "e*", "\u0080", "\u0100"}) Edge.refusedWith(s, "make [" + s + "]", Edge::some, x -> x.make(0, false), Edge.NAME);
        for (String s : new String[] {"a", "A", "B", "d", "D"}) {
            Edge.refusedWith(s, "make a file [" + s + "]", Edge::some, x -> x.make(0, false), Edge.THERE);
            Edge.refusedWith(s, "make a DIRECTORY [" + s + "]", Edge::some, x -> x.make(0, true), Edge.THERE);
        }
        Edge.due("c is not THERE in ROOT", Due.file(Edge.some(), 0, "c"), 46);
        Edge.due("a is not THERE in d", Due.file(Edge.some(), 34, "a"), 48);
        Edge.by("4 CALLS", "Refused is, the first of these: STATE -2 (mounted, or not), BAD -1 (no such place; not as told), NAME -3 (THE DRAFT is no NAME), THERE -4 (a SET with a NAME LIKE it is in that DIRECTORY), BARRED -5 (read only), FULL -6 (no CLUSTERS), OFF -7 (power failed).");
        Edge.refusedWith("*", "make: STATE before BAD and NAME", Due::base, x -> x.make(1, false), Edge.STATE);
        Edge.refusedWith("a", "make: STATE before THERE", Due::base, x -> x.make(0, false), Edge.STATE);
        Edge.refusedWith("*", "make: BAD before NAME", Edge::some, x -> x.make(1, false), Edge.BAD);
        Edge.refusedWith("e", "make: BAD before FULL", Edge::full, x -> x.make(1, false), Edge.BAD);
        Edge.refusedWith("*", "make: NAME before FULL", Edge::full, x -> x.make(0, false), Edge.NAME);
        Edge.refusedWith("A", "make: THERE before FULL", Edge::full, x -> x.make(0, true), Edge.THERE);
        Edge.refusedWith("e", "make: FULL before OFF", () -> Edge.fails(Edge.full(), 1), x -> x.make(0, false), Edge.FULL);
        Edge.due("make: OFF", Due.file(Edge.fails(Edge.some(), 1), 0, "e"), Edge.OFF);
    }

    // ---- promise 16

    private static void write(String words) {
        Edge.by("16 write", words);
    }

    private static void writes() {
        write("n OCTETS (1 .. 1024) of a file from one on become (v + i) & 255, i from 0 on");
        for (int v : new int[] {0, 1, 255, 256, -1, Edge.LEAST, Edge.MOST}) {
            BitmapVolume x = Edge.some();
            Edge.due("v " + v, x.write(40, 0, 300, v), 300);
            long due = 0;
            for (int i = 7; i >= 0; i--) due = due << 8 | v + i & 255;
            Edge.due("v " + v + ": the first eight", x.read(40, 0), due);
            Edge.due("v " + v + ": OCTET 256", x.read(40, 256) & 255, v & 255);
            Edge.due("v " + v + ": the last", x.read(40, 299), v + 299 & 255);
        }
        BitmapVolume x = Edge.some();
        Edge.due("1", x.write(40, 0, 1, 7), 1);
        Edge.due("1024", x.write(40, 1, 1024, 7), 1025);
        Edge.due("the last of 1024", x.read(40, 1024), 7 + 1023 & 255);
        x = Edge.some();
        Edge.due("one within", x.write(18, 127, 1, 99), 200);
        Edge.due("its neighbours stay", x.read(18, 126) & 0xFFFFFF, 0x816300 | 127);
        for (int n : new int[] {Edge.LEAST, -1, 0, 1025, Edge.MOST}) Edge.refused("n " + n, Edge::some, y -> y.write(18, 0, n, 1), Edge.BAD);
    }

    private static void writeLength() {
        write("LENGTH is more if they go behind it: LENGTH.");
        int[][] rows = {{0, 1, 200}, {199, 1, 200}, {0, 200, 200}, {0, 201, 201}, {199, 2, 201}, {200, 1, 201}, {200, 56, 256}, {200, 57, 257}, {200, 1024, 1224}};
        for (int[] r : rows) {
            BitmapVolume x = Edge.some();
            Edge.due("write(18, " + r[0] + ", " + r[1] + ")", x.write(18, r[0], r[1], 1), r[2]);
            Edge.due("told(18, 1)", x.told(18, 1), r[2]);
            Edge.due("on the disk, twice", Due.u4(x, 21 * 64 + 40) + Due.u4(x, 21 * 64 + 56), 2 * r[2]);
            Edge.due("CLUSTERS", x.cluster(18, (r[2] + 127) / 128 - 1) > 0 ? x.cluster(18, (r[2] + 127) / 128) : 0, Edge.NONE);
            Edge.dueRight("LENGTH " + r[2], x);
        }
        write("What lacks is taken first.");
        BitmapVolume x = left(1);
        Edge.due("to the end of what it has", x.write(18, 1400, 8, 5), 1408);
        Edge.due("one CLUSTER", x.write(18, 1408, 128, 5), 1536);
        Edge.due("none is free", x.count(1), 0);
        Edge.due("within, none is free", x.write(18, 512, 1024, 6), 1536);
        Edge.refused("one OCTET more", Edge::full, y -> y.write(18, 1536, 1, 6), Edge.FULL);
        Edge.refused("one OCTET more, most are there", Edge::full, y -> y.write(18, 513, 1024, 6), Edge.FULL);
        Edge.refused("two, one is free", () -> left(1), y -> y.write(18, 1408, 129, 6), Edge.FULL);
        write("the time of change is now.");
        x = Edge.some();
        x.clock(5);
        x.write(18, 0, 1, Due.base().octet(24, 0));
        Edge.due("though no OCTET is another", x.told(18, 7) * 10 + x.told(18, 8), 5);
    }

    private static void writeRefused() {
        write("STATE; BAD: no file, at is not 0 .. LENGTH, n; BARRED; FULL; OFF.");
        for (int at : new int[] {Edge.LEAST, -1, 201, 256, Edge.MOST}) Edge.refused("at " + at, Edge::some, x -> x.write(18, at, 1, 1), Edge.BAD);
        Edge.refused("at 1 of an empty file", Edge::some, x -> x.write(40, 1, 1, 1), Edge.BAD);
        Edge.due("at 0 of an empty file", Edge.some().write(40, 0, 1, 1), 1);
        Edge.due("at LENGTH", Edge.some().write(18, 200, 1, 1), 201);
        for (int p : NO_PLACES) Edge.refused("write(" + p + ")", Edge::some, x -> x.write(p, 0, 1, 1), Edge.BAD);
        Edge.refused("ROOT", Edge::some, x -> x.write(0, 0, 1, 1), Edge.BAD);
        Edge.refused("a DIRECTORY", Edge::some, x -> x.write(34, 0, 1, 1), Edge.BAD);
        Edge.by("4 CALLS", "Refused is, the first of these: STATE -2 (mounted, or not), BAD -1");
        Edge.refused("write: STATE before BAD", Due::base, x -> x.write(18, -1, 0, 1), Edge.STATE);
        Edge.refused("write: BAD (at) before BARRED", () -> Edge.barred(Edge.some(), 18), x -> x.write(18, 201, 1, 1), Edge.BAD);
        Edge.refused("write: BAD (n) before BARRED", () -> Edge.barred(Edge.some(), 18), x -> x.write(18, 0, 1025, 1), Edge.BAD);
        Edge.refused("write: BARRED", () -> Edge.barred(Edge.some(), 18), x -> x.write(18, 0, 1, 1), Edge.BARRED);
        Edge.refused("write: BARRED before FULL", () -> Edge.barred(Edge.full(), 18), x -> x.write(18, 1536, 1, 1), Edge.BARRED);
        Edge.refused("write: BARRED before OFF", () -> Edge.fails(Edge.barred(Edge.some(), 18), 1), x -> x.write(18, 0, 1, 1), Edge.BARRED);
        Edge.refused("write: BAD before FULL", Edge::full, x -> x.write(18, 1537, 1, 1), Edge.BAD);
        Edge.refused("write: FULL before OFF", () -> Edge.fails(Edge.full(), 1), x -> x.write(18, 1536, 1, 1), Edge.FULL);
        Edge.due("write: OFF", Edge.fails(Edge.some(), 1).write(18, 0, 1, 9), Edge.OFF);
    }

    private static void writePhases() {
        write("PHASES D F T B E");
        Edge.dueOrder("all of them", Edge::some, x -> x.write(18, 200, 312, 9), "0 27 36 37 38 39 8 8 16 21");
        Edge.dueOrder("an empty file", Edge::some, x -> x.write(40, 0, 65, 9), "0 36 37 16 32");
        Edge.dueOrder("within", Edge::some, x -> x.write(18, 0, 64, 9), "0 24");
    }

    // ---- promise 17

    private static void cut(String words) {
        Edge.by("17 cut", words);
    }

    private static void cuts() {
        cut("LENGTH becomes n, not above what it is: how many CLUSTERS go.");
        int[][] rows = {{200, 0}, {199, 0}, {129, 0}, {128, 1}, {127, 1}, {1, 1}, {0, 2}};
        for (int[] r : rows) {
            BitmapVolume x = Edge.some();
            Edge.due("cut(18, " + r[0] + ")", x.cut(18, r[0]), r[1]);
            Edge.due("LENGTH", x.told(18, 1), r[0]);
            Edge.due("free", x.count(1), 10 + r[1]);
            Edge.dueRight("cut(18, " + r[0] + ")", x);
        }
        BitmapVolume x = Edge.full();
        Edge.due("twelve of a chain", x.cut(18, 0), 12);
        Edge.due("an empty file", x.cut(18, 0), 0);
        for (int n : new int[] {Edge.LEAST, -1, 201, 256, Edge.MOST}) Edge.refused("n " + n, Edge::some, y -> y.cut(18, n), Edge.BAD);
        Edge.refused("n 1 of an empty file", Edge::some, y -> y.cut(40, 1), Edge.BAD);
        cut("the time of change is now (also if nothing goes).");
        x = Edge.some();
        x.clock(6);
        Edge.due("nothing goes", x.cut(18, 200), 0);
        Edge.due("the time", x.told(18, 7) * 10 + x.told(18, 8), 6);
        Edge.due("of an empty file", x.cut(40, 0) * 10 + x.told(40, 8), 6);
        cut("(OCTETS behind LENGTH stay where they are.)");
        x = Edge.some();
        x.cut(18, 1);
        Edge.due("in its CLUSTER", x.octet(24, 1), 2);
        Edge.due("in that which went", x.octet(26, 0), 129);
        Edge.due("they are not read", x.read(18, 0), 1);
        x.write(18, 1, 1, 50);
        Edge.due("one is written over", x.octet(24, 1) * 1000 + x.octet(24, 2), 50003);
    }

    private static void cutRefused() {
        cut("STATE; BAD: no file, n; BARRED; OFF.");
        for (int p : NO_PLACES) Edge.refused("cut(" + p + ")", Edge::some, x -> x.cut(p, 0), Edge.BAD);
        Edge.refused("ROOT", Edge::some, x -> x.cut(0, 0), Edge.BAD);
        Edge.refused("a DIRECTORY", Edge::some, x -> x.cut(34, 128), Edge.BAD);
        Edge.by("4 CALLS", "Refused is, the first of these: STATE -2 (mounted, or not), BAD -1");
        Edge.refused("cut: STATE before BAD", Due::base, x -> x.cut(18, 201), Edge.STATE);
        Edge.refused("cut: BAD before BARRED", () -> Edge.barred(Edge.some(), 18), x -> x.cut(18, 201), Edge.BAD);
        Edge.refused("cut: BARRED", () -> Edge.barred(Edge.some(), 18), x -> x.cut(18, 200), Edge.BARRED);
        Edge.refused("cut: BARRED before OFF", () -> Edge.fails(Edge.barred(Edge.some(), 18), 1), x -> x.cut(18, 0), Edge.BARRED);
        Edge.due("cut: OFF", Edge.fails(Edge.some(), 1).cut(18, 0), Edge.OFF);
        cut("PHASES D E T B");
        Edge.dueOrder("ONE RUN", Edge::some, x -> x.cut(18, 128), "0 21 16");
        Edge.dueOrder("a chain", Edge::full, x -> x.cut(18, 128), "0 21 8 9 16");
        Edge.dueOrder("nothing goes", Edge::some, x -> x.cut(18, 200), "0");
    }

    // ---- promise 18

    private static void drop(String words) {
        Edge.by("18 drop", words);
    }

    private static void drops() {
        drop("A file, or a DIRECTORY without SETS, goes: how many CLUSTERS it had.");
        BitmapVolume x = Edge.some();
        Edge.due("an empty file", x.drop(40), 0);
        Edge.due("a DIRECTORY whose SETS went", x.drop(34), 1);
        Edge.due("ONE RUN", x.drop(18), 2);
        Edge.due("free", x.count(1), 13);
        Edge.due("ROOT has b alone", x.list(0, 0) * 100 + x.list(0, 1), 2200 + Edge.NONE);
        Edge.dueRight("b", x);
        x = Edge.full();
        Edge.due("a chain of twelve", x.drop(18), 12);
        Edge.due("free", x.count(1) * 100 + x.count(2), 1210);
        x = Edge.some();
        int e = Due.file(x, 34, "e");
        x.drop(40);
        Edge.due("a DIRECTORY with one SET in its second CLUSTER", x.drop(34), Edge.BAD);
        x.drop(e);
        Edge.due("a DIRECTORY of two CLUSTERS, a chain", x.drop(34), 2);
        Edge.due("their FAT", Due.fat(x, 10) + Due.fat(x, 12), 0);
        Edge.dueRight("all is free", x);
        drop("Its ENTRIES become UNUSED.");
        x = Due.mounted(20);
        int f = Due.file(x, 0, "f".repeat(30));
        x.drop(f);
        int[] types = {5, 64, 65, 65};
        for (int i = 0; i < 4; i++) Edge.due("TYPE " + i, Due.at(x, 21 * 64 + 32 * i), types[i]);
        Edge.due("the rest of them stays", x.octet(21, 35), 30);
        Edge.due("it is no place", x.told(f, 0), Edge.BAD);
    }

    private static void dropRefused() {
        drop("STATE; BAD: no such place, ROOT, a DIRECTORY that has SETS; BARRED; OFF.");
        for (int p : NO_PLACES) Edge.refused("drop(" + p + ")", Edge::some, x -> x.drop(p), Edge.BAD);
        Edge.refused("ROOT", Edge::some, x -> x.drop(0), Edge.BAD);
        Edge.refused("ROOT without SETS", () -> Due.mounted(16), x -> x.drop(0), Edge.BAD);
        Edge.refused("a DIRECTORY that has SETS", Edge::some, x -> x.drop(34), Edge.BAD);
        Edge.by("4 CALLS", "Refused is, the first of these: STATE -2 (mounted, or not), BAD -1");
        Edge.refused("drop: STATE before BAD", Due::base, x -> x.drop(0), Edge.STATE);
        Edge.refused("drop: BAD before BARRED", () -> Edge.barred(Edge.some(), 34), x -> x.drop(34), Edge.BAD);
        Edge.refused("drop: BARRED", () -> Edge.barred(Edge.some(), 18), x -> x.drop(18), Edge.BARRED);
        Edge.refused("drop: BARRED before OFF", () -> Edge.fails(Edge.barred(Edge.some(), 18), 1), x -> x.drop(18), Edge.BARRED);
        Edge.due("drop: OFF", Edge.fails(Edge.some(), 1).drop(18), Edge.OFF);
        drop("PHASES D E T B.");
        Edge.dueOrder("ONE RUN", Edge::some, x -> x.drop(18), "0 21 22 16");
        Edge.dueOrder("a chain", Edge::full, x -> x.drop(18), "0 21 22 8 9 16");
        Edge.dueOrder("an empty file", Edge::some, x -> x.drop(40), "0 32 33");
    }

    // ---- promise 19

    private static void move(String words) {
        Edge.by("19 move", words);
    }

    private static void moves() {
        move("It has THE DRAFT as NAME in a DIRECTORY then (its own, or another): its new PLACE.");
        BitmapVolume x = Edge.some();
        int e = Due.move(x, 18, 0, "e");
        Edge.due("its own", Due.look(x, 0, "e"), e);
        Edge.due("its own: no other", Due.look(x, 0, "a"), Edge.NONE);
        Edge.due("its own: the old place", x.told(18, 0), Edge.BAD);
        int f = Due.move(x, e, 34, "n".repeat(30));
        Edge.due("another", Due.name(x, f), "n".repeat(30));
        Edge.due("another: not there any more", Due.look(x, 0, "e"), Edge.NONE);
        Edge.due("back, to one letter", Due.name(x, Due.move(x, f, 0, "a")), "a");
        Edge.dueRight("a", x);
        move("A new SET is laid as by make() (STREAM, ATTRIBUTES, times as they were), while the old one is there, then the old one becomes UNUSED.");
        x = Edge.full();
        x.clock(2);
        x.cut(18, 1300);
        x.clock(3);
        Edge.due("d takes one, and its time of change", Due.move(x, 18, 34, "a") > 0 ? x.told(34, 8) : 0, 3);
        e = Due.look(x, 34, "a");
        Edge.due("STREAM", x.told(e, 1) * 100 + x.cluster(e, 10), 130020);
        Edge.due("times", x.told(e, 7) * 10 + x.told(e, 8), 2);
        x = Due.mounted(20);
        x.clock(-9);
        Due.file(x, 0, "a");
        x.clock(8);
        x.write(18, 0, 1, 1);
        x.clock(7);
        e = Due.move(x, 18, 0, "b");
        Edge.due("times, made and changed", x.told(e, 7) * 10 + x.told(e, 8), -82);
        x = Edge.some();
        e = Due.move(x, 40, 34, "c");
        Edge.due("its own ENTRIES are not free yet", e, 4 * x.cluster(34, 1));
        Edge.due("then they are", Due.move(x, e, 34, "c"), 40);
        Edge.due("and again", Due.move(x, 40, 34, "C"), e);
        move("PHASES D F T B E, then E again for the old one.");
        Edge.dueOrder("d takes one", Edge::some, y -> Due.move(y, 18, 34, "e"), "0 8 8 16 29 33 36 37 21 22");
        Edge.dueOrder("d has room", () -> leftWithRoom(0), y -> Due.move(y, 18, 34, "e"), "0 32 33 21 22");
        x = Edge.fails(Edge.some(), 9);
        Edge.due("power fails between both", Due.move(x, 18, 34, "e"), Edge.OFF);
        Edge.due("both are there", x.octet(21, 0) * 1000 + x.octet(36, 0), 133133);
        Edge.dueFault("their CLUSTERS are the same", x, 7, 12, 0);
        x = Edge.some();
        x.bar(34, true);
        Edge.due("ATTRIBUTES of a DIRECTORY: into one that is read only", Due.move(x, 18, 34, "e"), 48);
    }

    private static void movesDirectories() {
        move("BAD: no such place, ROOT, no DIRECTORY, it is that, or that is in it at whatever depth");
        BitmapVolume x = Due.mounted(100);
        int first = Due.dir(x, 0, "d");
        int last = first;
        for (int i = 0; i < 80; i++) last = Due.dir(x, last, "d");
        Edge.due("80 deep", last > first ? 1 : 0, 1);
        Edge.due("that is in it, 80 deep", Due.move(x, first, last, "e"), Edge.BAD);
        Edge.due("it is that", Due.move(x, last, last, "e"), Edge.BAD);
        Edge.due("it is in that, 80 deep", Due.name(x, Due.move(x, last, first, "e")), "e");
        last = Due.look(x, first, "e");
        Edge.due("that is in it", Due.move(x, first, last, "e"), Edge.BAD);
        Edge.due("beside it", Due.name(x, Due.move(x, Due.look(x, first, "d"), last, "f")), "f");
        last = Due.look(x, 0, "d");
        Edge.due("that is in it still", Due.move(x, last, Due.look(x, last, "e"), "g"), Edge.BAD);
        Edge.dueRight("all", x);
        Edge.refusedWith("e", "a file is no DIRECTORY", Edge::some, y -> y.move(22, 18), Edge.BAD);
        Edge.refusedWith("e", "into itself, a file", Edge::some, y -> y.move(22, 22), Edge.BAD);
        Edge.refusedWith("e", "into itself, a DIRECTORY", Edge::some, y -> y.move(34, 34), Edge.BAD);
        Edge.refusedWith("e", "ROOT", Edge::some, y -> y.move(0, 34), Edge.BAD);
        Edge.refusedWith("e", "ROOT into ROOT", Edge::some, y -> y.move(0, 0), Edge.BAD);
        for (int p : NO_PLACES) {
            Edge.refusedWith("e", "move(" + p + ", 0)", Edge::some, y -> y.move(p, 0), Edge.BAD);
            Edge.refusedWith("e", "move(18, " + p + ")", Edge::some, y -> y.move(18, p), Edge.BAD);
        }
    }

    private static void moveRefused() {
        move("THERE (itself does not count)");
        BitmapVolume x = Edge.some();
        int e = Due.move(x, 18, 0, "A");
        Edge.due("itself", Due.name(x, e), "A");
        Edge.due("as it is", Due.name(x, Due.move(x, e, 0, "A")), "A");
        Edge.refusedWith("B", "another", Edge::some, y -> y.move(18, 0), Edge.THERE);
        Edge.refusedWith("C", "another in another", Edge::some, y -> y.move(18, 34), Edge.THERE);
        Edge.due("one LIKE it elsewhere does not count", Due.move(Edge.some(), 40, 0, "e"), 46);
        Edge.due("a DIRECTORY may have the NAME of what is in it", Due.move(Edge.some(), 34, 0, "c"), 46);
        for (String s : new String[] {"", "e.", " ", "?", "\u009f"}) Edge.refusedWith(s, "[" + s + "]", Edge::some, y -> y.move(18, 0), Edge.NAME);
        Edge.by("4 CALLS", "NAME -3 (THE DRAFT is no NAME), THERE -4 (a SET with a NAME LIKE it is in that DIRECTORY), BARRED -5 (read only), FULL -6 (no CLUSTERS), OFF -7 (power failed).");
        Edge.refusedWith("*", "move: STATE before BAD and NAME", Due::base, y -> y.move(0, 1), Edge.STATE);
        Edge.refusedWith("*", "move: BAD before NAME", Edge::some, y -> y.move(34, 34), Edge.BAD);
        Edge.refusedWith("b", "move: BAD before THERE", Edge::some, y -> y.move(19, 0), Edge.BAD);
        Edge.refusedWith("*", "move: NAME before BARRED", () -> Edge.barred(Edge.some(), 18), y -> y.move(18, 0), Edge.NAME);
        Edge.refusedWith("b", "move: THERE before BARRED", () -> Edge.barred(Edge.some(), 18), y -> y.move(18, 0), Edge.THERE);
        Edge.refusedWith("e", "move: BARRED", () -> Edge.barred(Edge.some(), 18), y -> y.move(18, 34), Edge.BARRED);
        Edge.refusedWith("e", "move: BARRED before FULL", () -> Edge.barred(Edge.full(), 18), y -> y.move(18, 0), Edge.BARRED);
        Edge.refusedWith("b", "move: THERE before FULL", Edge::full, y -> y.move(18, 0), Edge.THERE);
        Edge.refusedWith("e", "move: FULL", Edge::full, y -> y.move(18, 0), Edge.FULL);
        Edge.refusedWith("c", "move: FULL, while the old one is there", Edge::full, y -> y.move(40, 34), Edge.FULL);
        Edge.refusedWith("e", "move: FULL before OFF", () -> Edge.fails(Edge.full(), 1), y -> y.move(18, 34), Edge.FULL);
        Edge.due("move: as many are free as it takes", Due.move(left(1), 18, 0, "e"), 46);
        Edge.due("move: it takes none", Due.move(leftWithRoom(0), 18, 34, "e"), 40);
        Edge.due("move: OFF", Due.move(Edge.fails(Edge.some(), 1), 18, 0, "e"), Edge.OFF);
    }

    // ---- promise 20

    private static void bar() {
        Edge.by("20 bar", "Read only, or not: 1 if it was, else 0.");
        BitmapVolume x = Edge.some();
        for (int p : new int[] {18, 34, 40}) {
            int was = x.told(p, 0);
            Edge.due("not, not", x.bar(p, false), 0);
            Edge.due("not, then", x.bar(p, true), 0);
            Edge.due("ATTRIBUTES", x.told(p, 0), was + 1);
            Edge.due("it was, is", x.bar(p, true), 1);
            Edge.due("it was, then not", x.bar(p, false), 1);
            Edge.due("ATTRIBUTES as they were", x.told(p, 0), was);
        }
        Edge.dueRight("all", x);
        Edge.by("20 bar", "PHASES D E (D also if it is so).");
        Edge.dueOrder("it is not so", Edge::some, y -> y.bar(18, true), "0 21");
        Edge.dueOrder("it is so", Edge::some, y -> y.bar(18, false), "0");
        Edge.dueOrder("it is so, and DIRTY", () -> Edge.fails(soiled(), 0), y -> y.bar(18, false), "");
        Edge.by("20 bar", "STATE; BAD: no such place, ROOT; OFF.");
        for (int p : NO_PLACES) Edge.refused("bar(" + p + ")", Edge::some, y -> y.bar(p, true), Edge.BAD);
        Edge.refused("ROOT", Edge::some, y -> y.bar(0, false), Edge.BAD);
        Edge.refused("STATE", Due::base, y -> y.bar(18, true), Edge.STATE);
        Edge.refused("STATE before BAD", Due::base, y -> y.bar(0, true), Edge.STATE);
        Edge.refused("BAD before OFF", () -> Edge.fails(Edge.some(), 1), y -> y.bar(0, true), Edge.BAD);
        Edge.due("OFF", Edge.fails(Edge.some(), 1).bar(18, false), Edge.OFF);
        x = Edge.barred(Edge.some(), 18);
        Edge.due("what is read only can be made so, and not", x.bar(18, true) * 10 + x.bar(18, false), 11);
        Edge.due("then it can be written", x.write(18, 0, 1, 1), 200);
    }

    // ---- THE DRAFT

    private static void dueDraft(String what, Due.Setup setup, Due.Act act, int left) {
        BitmapVolume x = Due.say(setup.make(), "qq");
        long answer = act.on(x);
        Edge.due(what + " answers " + answer + ": THE DRAFT has", x.clear(), left);
    }

    private static void draft() {
        Edge.by("4 CALLS", "A refused call changes nothing, but that THE DRAFT is empty behind each call that takes it.");
        Due.Act[] takes = {x -> x.look(0), x -> x.look(1), x -> x.make(0, false), x -> x.make(1, true), x -> x.move(18, 0), x -> x.move(0, 0), x -> x.clear()};
        Due.Act[] leaves = {x -> x.format(1, 1), x -> x.octet(-1, 0), x -> x.spoil(0, 0, -1), x -> x.fail(-1), x -> x.mount(), x -> x.fault(9), x -> x.unmount(),
            x -> x.mend(), x -> x.letters(0), x -> x.list(0, 0), x -> x.list(1, 0), x -> x.write(18, 0, 1, 1), x -> x.write(0, 0, 1, 1),
            x -> x.cut(18, 0), x -> x.cut(0, 0), x -> x.drop(18), x -> x.drop(0), x -> x.bar(18, true), x -> x.bar(0, true), x -> x.read(18, 0), x -> x.told(18, 0),
            x -> x.told(1, 0), x -> x.letter(18, 0), x -> x.letter(0, 0), x -> x.cluster(18, 0), x -> x.cluster(1, 0), x -> x.count(0), x -> x.count(9)};
        for (Due.Setup setup : new Due.Setup[] {Edge::some, Due::base, BitmapVolume::new, Edge::full, () -> Edge.fails(Edge.some(), 1)}) {
            for (int i = 0; i < takes.length; i++) dueDraft("a call that takes it, " + i, setup, takes[i], 0);
            for (int i = 0; i < leaves.length; i++) dueDraft("a call that does not, " + i, setup, leaves[i], 2);
        }
    }

    private static BitmapVolume soiled() {
        BitmapVolume x = Edge.some();
        x.bar(22, false);
        return x;
    }

    public static void main(String[] args) {
        makes();
        makeTakes();
        takesAgain();
        makeFull();
        makeRefused();
        writes();
        writeLength();
        writeRefused();
        writePhases();
        cuts();
        cutRefused();
        drops();
        dropRefused();
        moves();
        movesDirectories();
        moveRefused();
        bar();
        draft();
        Due.end();
    }
}
