import java.util.Arrays;

/** What the tests share: counting wrong answers, short ways to say a NAME, and the order of WRITTEN SECTORS. */
final class Due {
    private static int wrong = 0;
    private static int asked = 0;

    private Due() {
    }

    static void due(String what, long got, long want) {
        asked++;
        if (got == want) return;
        wrong++;
        System.out.println(what + " answered " + got + ", due is " + want);
    }

    static void due(String what, String got, String want) {
        asked++;
        if (got.equals(want)) return;
        wrong++;
        System.out.println(what + " gave [" + got + "], due is [" + want + "]");
    }

    static void end() {
        System.out.println(asked + " answers, " + wrong + " not as due");
        if (wrong != 0 || asked == 0) System.exit(1);
    }

    static BitmapVolume mounted(int n) {
        BitmapVolume x = new BitmapVolume();
        x.format(n, 1);
        x.mount();
        return x;
    }

    /**
     * ROOT 4 5 8 11; a (18) ONE RUN 6 7, head SECTOR 21, tail 22; b (22) 9, head 23, tail 28;
     * d (34) a DIRECTORY, 10, head 29, tail 34; c (40) in it, empty, head 32, tail 33. Not mounted.
     */
    static BitmapVolume base() {
        BitmapVolume x = mounted(20);
        file(x, 0, "a");
        x.write(18, 0, 200, 1);
        file(x, 0, "b");
        x.write(22, 0, 100, 2);
        dir(x, 0, "d");
        file(x, 34, "c");
        x.unmount();
        return x;
    }

    /** A volume whose table of great letters is another one, with its SUM. */
    static BitmapVolume withCases(int... table) {
        BitmapVolume x = new BitmapVolume();
        x.format(20, 1);
        long sum = 0;
        for (int i = 0; i < 2 * table.length; i++) {
            int v = table[i / 2] >> 8 * (i % 2) & 255;
            if (i < 128) x.spoil(18 + i / 64, i % 64, v);
            sum = roll32(sum, v);
        }
        put(x, 20 * 64 + 32 + 4, 4, sum);
        put(x, 20 * 64 + 32 + 24, 4, 2L * table.length);
        return x;
    }

    /** THE DRAFT becomes a text. */
    static BitmapVolume say(BitmapVolume x, String text) {
        x.clear();
        for (char c : text.toCharArray()) x.letters(c);
        return x;
    }

    static int file(BitmapVolume x, int directory, String name) {
        return say(x, name).make(directory, false);
    }

    static int dir(BitmapVolume x, int directory, String name) {
        return say(x, name).make(directory, true);
    }

    static int look(BitmapVolume x, int directory, String name) {
        return say(x, name).look(directory);
    }

    static int move(BitmapVolume x, int place, int directory, String name) {
        return say(x, name).move(place, directory);
    }

    static String name(BitmapVolume x, int place) {
        StringBuilder b = new StringBuilder();
        for (int i = 0; i < x.told(place, 4); i++) b.append((char) x.letter(place, i));
        return b.toString();
    }

    static String clusters(BitmapVolume x, int place) {
        StringBuilder b = new StringBuilder();
        for (int i = 0; i < 200 && x.cluster(place, i) >= 0; i++) b.append(i == 0 ? "" : " ").append(x.cluster(place, i));
        return b.toString();
    }

    static int fat(BitmapVolume x, int c) {
        return u4(x, 8 * 64 + 4 * c);
    }

    static int u4(BitmapVolume x, int a) {
        return u2(x, a) | u2(x, a + 2) << 16;
    }

    static int u2(BitmapVolume x, int a) {
        return at(x, a) | at(x, a + 1) << 8;
    }

    static int at(BitmapVolume x, int a) {
        return x.octet(a / 64, a % 64);
    }

    /** The address of a place, and of ENTRY i of a CLUSTER. */
    static int address(int place) {
        return (16 + 2 * (place / 4 - 2)) * 64 + 32 * (place % 4);
    }

    static void put(BitmapVolume x, int a, int octets, long v) {
        for (int i = 0; i < octets; i++) x.spoil((a + i) / 64, (a + i) % 64, (int) (v >> 8 * i & 255));
    }

    static void setFat(BitmapVolume x, int c, long v) {
        put(x, 8 * 64 + 4 * c, 4, v);
    }

    /** Makes THE SET'S SUM right again: head is the SECTOR of its FILE and STREAM, at tail begin its NAMES. */
    static void seal(BitmapVolume x, int head, int tail) {
        int s = 0;
        int names = x.octet(head, 1) - 1;
        for (int i = 0; i < 64; i++) if (i != 2 && i != 3) s = roll(s, x.octet(head, i));
        for (int i = 0; i < 32 * names; i++) s = roll(s, at(x, tail * 64 + i));
        put(x, head * 64 + 2, 2, s);
    }

    static int roll(int s, int octet) {
        return (s % 2 == 1 ? 32768 : 0) + s / 2 + octet & 65535;
    }

    static long roll32(long s, int octet) {
        return ((s % 2 == 1 ? 2147483648L : 0) + s / 2 + octet) % 4294967296L;
    }

    interface Setup {
        BitmapVolume make();
    }

    interface Act {
        long on(BitmapVolume x);
    }

    /** How many OCTETS are read from one object: behind its 512th call its answers are free. */
    private static final int SLICE = 216;

    /** The whole disk behind an act, read from so many objects made alike that none is used for too many calls. */
    static int[] disk(Setup setup, Act act) {
        int[] d = new int[216 * 64];
        for (int from = 0; from < d.length; from += SLICE) {
            BitmapVolume x = setup.make();
            act.on(x);
            for (int a = from; a < from + SLICE && a < d.length; a++) d[a] = at(x, a);
        }
        return d;
    }

    /** The numbers of the SECTORS in which two disks differ. */
    static String changed(int[] before, int[] after) {
        StringBuilder b = new StringBuilder();
        for (int s = 0; s < 216; s++) {
            if (Arrays.equals(before, 64 * s, 64 * s + 64, after, 64 * s, 64 * s + 64)) continue;
            b.append(b.length() == 0 ? "" : " ").append(s);
        }
        return b.toString();
    }

    /**
     * Which SECTORS an act writes, in order: power fails at the first, the second, .. one, and what
     * two such disks differ in is the SECTOR between. Asks on the way what each failing has to do.
     */
    static String order(String what, Setup setup, Act act) {
        StringBuilder order = new StringBuilder();
        int[] before = disk(setup, x -> 0);
        for (int m = 1; m <= 100; m++) {
            int power = m;
            Act failing = x -> {
                x.fail(power);
                return act.on(x);
            };
            int[] after = disk(setup, failing);
            String sectors = changed(before, after);
            if (m > 1) order.append(' ').append(sectors.isEmpty() ? "one that was so" : sectors);
            else due(what + ", power fails at 1: SECTORS", sectors, "");
            before = after;
            BitmapVolume x = setup.make();
            int written = x.count(4);
            long answer = failing.on(x);
            due(what + ", power fails at " + m + ": WRITTEN", x.count(4) - written, m - 1);
            if (answer != BitmapVolume.OFF) return order.toString().trim();
            due(what + ", power fails at " + m + ": count(5)", x.count(5), 0);
            due(what + ", power fails at " + m + ": mend() mends", x.mend() >= 0 ? 1 : 0, 1);
            due(what + ", power fails at " + m + ": mount()", x.mount(), 1);
        }
        return order + " .. without end";
    }
}
