/** Boundary cases that the promises 1 to 5 name: a new object, format, octet, spoil, fail. */
public final class EdgesOfDiskTest {
    private static final int[] TOO_GREAT = {Edge.LEAST, -1, Edge.MOST};

    // ---- promise 1

    private static void newObject() {
        Edge.by("1 A new object", "A disk of OCTETS 0, not mounted; time 0; an empty draft.");
        int sum = 0;
        for (int v : Due.disk(BitmapVolume::new, x -> 0)) sum += v;
        Edge.due("OCTETS", sum, 0);
        BitmapVolume x = new BitmapVolume();
        Edge.due("count(5)", x.count(5), 0);
        Edge.due("count(4)", x.count(4), 0);
        Edge.due("letters(0)", x.letters(0), 0);
        Edge.due("clear()", x.clear(), 0);
        for (int i = 0; i < 3; i++) Edge.due("fault(" + i + ")", x.fault(i), 0);
        Edge.due("unmount()", x.unmount(), Edge.STATE);
        Edge.due("mount()", x.mount(), -11);
        x.format(16, 0);
        x.mount();
        int a = Due.file(x, 0, "a");
        Edge.due("time: made, changed", x.told(a, 7) + x.told(a, 8), 0);
        Edge.due("no power fails", a, 18);
    }

    private static void lastCall() {
        Edge.by("1 THE DISK", "An object is used for at most 512 calls after it has been made");
        BitmapVolume x = new BitmapVolume();
        x.format(16, 1);
        x.mount();
        x.letters('a');
        int a = x.make(0, false);
        for (int i = 4; i < 511; i++) x.write(a, 0, 1, i);
        Edge.due("the 512th call", x.read(a, 0), 510 & 255);
    }

    // ---- promise 2

    private static BitmapVolume spoiled() {
        BitmapVolume x = new BitmapVolume();
        for (int s = 0; s < 216; s += 3) x.spoil(s, s * 7 % 64, 1 + s % 255);
        x.spoil(15, 63, 255);
        x.spoil(215, 63, 255);
        return x;
    }

    private static void formatAll() {
        Edge.by("2 format", "All OCTETS become 0, then there is a volume of n CLUSTERS");
        for (int n : new int[] {16, 100}) {
            int[] fresh = Due.disk(BitmapVolume::new, x -> x.format(n, 9));
            Edge.due("N " + n + ": on a spoiled disk", Due.changed(fresh, Due.disk(EdgesOfDiskTest::spoiled, x -> x.format(n, 9))), "");
            int[] again = Due.disk(() -> Edge.off(soiled()), x -> x.format(n, 9));
            Edge.due("N " + n + ": on a volume that was used", Due.changed(fresh, again), "");
            int taken = 0;
            for (int a = 23 * 64; a < fresh.length; a++) taken += fresh[a];
            Edge.due("N " + n + ": behind ROOT's CLUSTER all are 0", taken, 0);
        }
        Edge.dueOrder("a new DIRECTORY finds 0s", EdgesOfDiskTest::formattedAgain, x -> Due.dir(x, 0, "d"), "0 8 8 16 21 24");
        Edge.by("2 format", "both BOOT REGIONS (PERCENT 255, not DIRTY)");
        BitmapVolume x = Edge.off(soiled());
        x.spoil(0, 44, 2);
        x.format(20, 1);
        for (int s = 0; s < 8; s += 4) Edge.due("SECTOR " + s, x.octet(s, 44) * 1000 + x.octet(s, 49), 255);
        x.spoil(0, 0, 0);
        Edge.due("THE SECOND is right", x.mount(), 2);
        Edge.by("2 format", "ROOT (4), whose FAT are END: how many SECTORS it has.");
        int[][] rows = {{16, 48}, {17, 50}, {99, 214}, {100, 216}};
        for (int[] r : rows) Edge.due("N " + r[0], new BitmapVolume().format(r[0], 1), r[1]);
        for (int c = 2; c < 6; c++) Edge.due("FAT " + c, Due.fat(x, c), c < 5 ? -1 : 0);
    }

    private static BitmapVolume formattedAgain() {
        BitmapVolume x = Edge.off(soiled());
        x.format(20, 1);
        x.mount();
        return x;
    }

    private static BitmapVolume soiled() {
        BitmapVolume x = Edge.some();
        x.write(40, 0, 1000, 9);
        return x;
    }

    private static int greatOf(int v) {
        if (v >= 97 && v <= 122) return v - 32;
        if (v >= 224 && v <= 246 || v >= 248 && v <= 254) return v - 32;
        return v;
    }

    private static void formatCases() {
        Edge.by("2 format", "CASES tells: 65535 97, the great letters of a to z, 65535 101, of 224 to 246 those less 32, 65535 1, of 248 to 254 likewise, 65535 1.");
        for (int v : new int[] {32, 64, 65, 90, 91, 95, 96, 97, 98, 121, 122, 123, 125, 126, 160, 192, 214, 215, 216, 222, 223, 224, 225, 245, 246, 247, 248, 249, 253, 254, 255}) {
            BitmapVolume x = Due.mounted(16);
            int a = Due.file(x, 0, (char) v + "_");
            int hash = Due.roll(Due.roll(Due.roll(Due.roll(0, greatOf(v)), 0), '_'), 0);
            Edge.due("HASH of letter " + v, x.told(a, 5), hash);
            Edge.due("its great letter is LIKE it", Due.look(x, 0, (char) greatOf(v) + "_"), a);
        }
        BitmapVolume x = new BitmapVolume();
        x.format(16, 1);
        Edge.due("it fills its CLUSTER", x.octet(20, 32 + 24), 128);
        Edge.due("its last number", Due.u2(x, 19 * 64 + 62), 1);
        Edge.due("its first numbers", Due.u2(x, 18 * 64) * 100L + Due.u2(x, 18 * 64 + 2), 6553597);
    }

    private static void formatLeaves() {
        Edge.by("2 format", "(No power can fail in it; SERIAL as u4; time, THE DRAFT, fail(), fault() stay.)");
        BitmapVolume x = new BitmapVolume();
        x.mount();
        x.clock(-3);
        x.letters('q');
        x.fail(1);
        Edge.due("no power fails", x.format(16, 1), 48);
        Edge.due("SECTORS WRITTEN", x.count(4), 0);
        Edge.due("fault(0) stays", x.fault(0), 1);
        Edge.due("THE DRAFT stays", x.letters(0), 1);
        Edge.due("mount()", x.mount(), 1);
        Edge.due("fail() stays", x.make(0, false), Edge.OFF);
        x.format(16, 1);
        x.mount();
        int a = Due.file(x, 0, "a");
        Edge.due("time stays", x.told(a, 7), -3);
        for (int serial : new int[] {0, 1, -1, Edge.LEAST, Edge.MOST}) {
            x = new BitmapVolume();
            x.format(16, serial);
            Edge.due("SERIAL " + serial, Due.u4(x, 40), serial);
            Edge.due("SERIAL " + serial + " in THE SECOND", Due.u4(x, 256 + 40), serial);
            Edge.due("SERIAL " + serial + " is right", x.mount(), 1);
        }
    }

    private static void formatRefused() {
        Edge.by("2 format", "STATE: mounted; BAD: n.");
        for (int n : new int[] {Edge.LEAST, -1, 0, 1, 15, 101, 102, 116, Edge.MOST}) {
            Edge.refused("format(" + n + ")", Due::base, x -> x.format(n, 1), Edge.BAD);
            Edge.refused("format(" + n + ") mounted", Edge::some, x -> x.format(n, 1), Edge.STATE);
        }
        Edge.refused("format(16) mounted", Edge::some, x -> x.format(16, 1), Edge.STATE);
        Edge.refused("format(100) mounted", Edge::some, x -> x.format(100, 1), Edge.STATE);
        Edge.due("format(16) behind unmount()", Edge.off(Edge.some()).format(16, 1), 48);
    }

    // ---- promises 3 and 4

    private static void octet() {
        Edge.by("3 octet", "OCTET i of a SECTOR. BAD.");
        BitmapVolume x = new BitmapVolume();
        int[][] right = {{0, 0}, {0, 63}, {215, 0}, {215, 63}, {1, 0}};
        for (int i = 0; i < right.length; i++) x.spoil(right[i][0], right[i][1], 251 + i);
        for (int i = 0; i < right.length; i++) Edge.due("octet(" + right[i][0] + ", " + right[i][1] + ")", x.octet(right[i][0], right[i][1]), 251 + i);
        for (int v : TOO_GREAT) {
            Edge.refused("octet(" + v + ", 0)", Due::base, y -> y.octet(v, 0), Edge.BAD);
            Edge.refused("octet(0, " + v + ")", Edge::some, y -> y.octet(0, v), Edge.BAD);
        }
        Edge.refused("octet(216, 0)", Due::base, y -> y.octet(216, 0), Edge.BAD);
        Edge.refused("octet(0, 64)", Due::base, y -> y.octet(0, 64), Edge.BAD);
        Edge.refused("octet(215, 64)", Edge::some, y -> y.octet(215, 64), Edge.BAD);
        Edge.due("mounted", Edge.some().octet(0, 0), 235);
    }

    private static void spoil() {
        Edge.by("4 spoil", "An OCTET becomes v (0 .. 255): what it was.");
        BitmapVolume x = new BitmapVolume();
        int[][] rows = {{0, 0}, {215, 63}, {107, 31}};
        for (int[] r : rows) {
            Edge.due("255 at " + r[0], x.spoil(r[0], r[1], 255), 0);
            Edge.due("0 at " + r[0], x.spoil(r[0], r[1], 0), 255);
            Edge.due("it is 0 at " + r[0], x.octet(r[0], r[1]), 0);
        }
        Edge.due("it is not WRITTEN", x.count(4), 0);
        Edge.due("power does not fail", Edge.fails(x, 1).spoil(0, 0, 1), 0);
        Edge.by("4 spoil", "STATE: mounted; BAD.");
        int[][] bad = {{0, 0, -1}, {0, 0, 256}, {0, 0, Edge.LEAST}, {0, 0, Edge.MOST}, {-1, 0, 1}, {216, 0, 1}, {0, -1, 1}, {0, 64, 1},
            {Edge.LEAST, 0, 1}, {Edge.MOST, 0, 1}, {0, Edge.LEAST, 1}, {0, Edge.MOST, 1}};
        for (int[] b : bad) {
            String call = "spoil(" + b[0] + ", " + b[1] + ", " + b[2] + ")";
            Edge.refused(call, Due::base, y -> y.spoil(b[0], b[1], b[2]), Edge.BAD);
            Edge.refused(call + " mounted", Edge::some, y -> y.spoil(b[0], b[1], b[2]), Edge.STATE);
        }
        Edge.refused("spoil(0, 0, 1) mounted", Edge::some, y -> y.spoil(0, 0, 1), Edge.STATE);
        Edge.due("behind OFF it is not mounted", lost().spoil(0, 0, 1), 235);
    }

    private static BitmapVolume lost() {
        BitmapVolume x = Edge.fails(Edge.some(), 1);
        x.bar(18, true);
        return x;
    }

    // ---- promise 5

    private static void failRange() {
        Edge.by("5 fail", "Power fails at the m-th SECTOR that is WRITTEN from now on (1 .. 1000; 0: not). 1. BAD.");
        for (int m : new int[] {0, 1, 2, 999, 1000}) {
            Edge.due("fail(" + m + ")", Edge.some().fail(m), 1);
            Edge.due("fail(" + m + ") not mounted", new BitmapVolume().fail(m), 1);
        }
        for (int m : new int[] {Edge.LEAST, -1, 1001, Edge.MOST}) Edge.refused("fail(" + m + ")", Edge::some, x -> x.fail(m), Edge.BAD);
        BitmapVolume x = Edge.fails(Edge.some(), 1);
        x.fail(1001);
        x.fail(-1);
        Edge.due("one that is BAD leaves the one before", x.bar(18, true), Edge.OFF);
        x = Edge.fails(Edge.some(), 1);
        x.fail(0);
        Edge.due("0 takes it back", x.bar(18, true), 0);
        x = Edge.fails(Edge.some(), 1);
        x.fail(3);
        Edge.due("a later one counts from now on: two SECTORS", x.bar(18, true), 0);
        Edge.due("the third", x.bar(18, false), Edge.OFF);
    }

    /** A file of 16 SECTORS, all of which each writing of another v changes. */
    private static BitmapVolume sixteen() {
        BitmapVolume x = Edge.some();
        x.write(40, 0, 1024, 0);
        return x;
    }

    private static void failThousand() {
        Edge.by("5 fail", "Power fails at the m-th SECTOR that is WRITTEN from now on (1 .. 1000; 0: not).");
        BitmapVolume x = Edge.fails(sixteen(), 1000);
        int written = x.count(4);
        for (int i = 1; i <= 62; i++) Edge.due("write " + i, x.write(40, 0, 1024, i), 1024);
        Edge.due("seven SECTORS", x.write(40, 0, 448, 77), 1024);
        Edge.due("999 are WRITTEN", x.count(4) - written, 999);
        Edge.due("the 1000th", x.write(40, 0, 1, 99), Edge.OFF);
        Edge.due("it is not WRITTEN", x.count(4) - written, 999);
    }

    private static void failHolds() {
        Edge.by("5 fail", "(It holds till it came.)");
        BitmapVolume x = Edge.fails(Edge.some(), 2);
        Edge.due("a refused call", x.bar(0, true), Edge.BAD);
        Edge.due("a call that asks", x.told(18, 0), 0);
        Edge.due("one is WRITTEN", x.bar(18, false), 0);
        Edge.due("none is WRITTEN", x.bar(18, false), 0);
        Edge.due("unmount() is the second", x.unmount(), Edge.OFF);
        Edge.due("it came: mount()", x.mount(), 1);
        Edge.due("it came: nothing fails", x.bar(18, true) * 10 + x.bar(18, false), 1);
        Edge.due("it came: unmount()", x.unmount(), 1);
        x.fail(1);
        Edge.due("spoil() is not WRITTEN", x.spoil(215, 63, 7), 0);
        Edge.due("mount() writes nothing", x.mount(), 1);
        Edge.due("unmount() writes nothing", x.unmount(), 1);
        Edge.due("format() does not count", x.format(16, 1), 48);
        x.mount();
        Edge.due("unmount() has to write PERCENT", x.unmount(), Edge.OFF);
        x.fail(1);
        x.spoil(16, 0, 255);
        Edge.due("mend() has to write", x.mend(), Edge.OFF);
        Edge.due("mend() again", x.mend(), 1);
    }

    public static void main(String[] args) {
        newObject();
        lastCall();
        formatAll();
        formatCases();
        formatLeaves();
        formatRefused();
        octet();
        spoil();
        failRange();
        failThousand();
        failHolds();
        Due.end();
    }
}
