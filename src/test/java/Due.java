/** What the tests share: counting wrong answers, short ways to say a NAME, and the order of WRITTEN SECTORS. */
final class Due {
    private static int wrong = 0;
    private static int asked = 0;

    private Due() {
    }

    static void due(String what, long got, long want) {
        asked++;
        if (got == want) return;
        wrong++;
        System.out.println(what + " answered " + got + ", due is " + want);
    }

    static void due(String what, String got, String want) {
        asked++;
        if (got.equals(want)) return;
        wrong++;
        System.out.println(what + " gave [" + got + "], due is [" + want + "]");
    }

    static void end() {
        System.out.println(asked + " answers, " + wrong + " not as due");
        if (wrong != 0 || asked == 0) System.exit(1);
    }

    static BitmapVolume mounted(int n) {
        BitmapVolume x = new BitmapVolume();
        x.format(n, 1);
        x.mount();
        return x;
    }

    /** THE DRAFT becomes a text. */
    static BitmapVolume say(BitmapVolume x, String text) {
        x.clear();
        for (char c : text.toCharArray()) x.letters(c);
        return x;
    }

    static int file(BitmapVolume x, int directory, String name) {
        return say(x, name).make(directory, false);
    }

    static int dir(BitmapVolume x, int directory, String name) {
        return say(x, name).make(directory, true);
    }

    static int look(BitmapVolume x, int directory, String name) {
        return say(x, name).look(directory);
    }

    static int move(BitmapVolume x, int place, int directory, String name) {
        return say(x, name).move(place, directory);
    }

    static String name(BitmapVolume x, int place) {
        StringBuilder b = new StringBuilder();
        for (int i = 0; i < x.told(place, 4); i++) b.append((char) x.letter(place, i));
        return b.toString();
    }

    static String clusters(BitmapVolume x, int place) {
        StringBuilder b = new StringBuilder();
        for (int i = 0; x.cluster(place, i) >= 0; i++) b.append(i == 0 ? "" : " ").append(x.cluster(place, i));
        return b.toString();
    }

    static int fat(BitmapVolume x, int c) {
        return u4(x, 8 * 64 + 4 * c);
    }

    static int u4(BitmapVolume x, int a) {
        return u2(x, a) | u2(x, a + 2) << 16;
    }

    static int u2(BitmapVolume x, int a) {
        return at(x, a) | at(x, a + 1) << 8;
    }

    static int at(BitmapVolume x, int a) {
        return x.octet(a / 64, a % 64);
    }

    /** The address of a place, and of ENTRY i of a CLUSTER. */
    static int address(int place) {
        return (16 + 2 * (place / 4 - 2)) * 64 + 32 * (place % 4);
    }

    static void put(BitmapVolume x, int a, int octets, long v) {
        for (int i = 0; i < octets; i++) x.spoil((a + i) / 64, (a + i) % 64, (int) (v >> 8 * i & 255));
    }

    static void setFat(BitmapVolume x, int c, long v) {
        put(x, 8 * 64 + 4 * c, 4, v);
    }

    /** Makes THE SET'S SUM right again: head and tail are its two SECTORS. */
    static void seal(BitmapVolume x, int head, int tail) {
        int s = 0;
        int names = x.octet(head, 1) - 1;
        for (int i = 0; i < 64; i++) if (i != 2 && i != 3) s = roll(s, x.octet(head, i));
        for (int i = 0; i < 32 * names; i++) s = roll(s, x.octet(tail, i));
        put(x, head * 64 + 2, 2, s);
    }

    static int roll(int s, int octet) {
        return (s % 2 == 1 ? 32768 : 0) + s / 2 + octet & 65535;
    }

    static long roll32(long s, int octet) {
        return ((s % 2 == 1 ? 2147483648L : 0) + s / 2 + octet) % 4294967296L;
    }

    interface Setup {
        BitmapVolume make();
    }

    interface Act {
        long on(BitmapVolume x);
    }

    private static int[][] disk(BitmapVolume x) {
        int[][] d = new int[216][64];
        for (int s = 0; s < 216; s++) for (int i = 0; i < 64; i++) d[s][i] = x.octet(s, i);
        return d;
    }

    /**
     * Which SECTORS an act writes, in order: power fails at the first, the second, .. one, and what
     * two such disks differ in is the SECTOR between. Asks on the way what each failing has to do.
     */
    static String order(String what, Setup setup, Act act) {
        StringBuilder order = new StringBuilder();
        int[][] before = disk(setup.make());
        for (int m = 1; m <= 100; m++) {
            BitmapVolume x = setup.make();
            int written = x.count(4);
            x.fail(m);
            long answer = act.on(x);
            int[][] after = disk(x);
            String changed = "";
            for (int s = 0; s < 216; s++) if (!java.util.Arrays.equals(before[s], after[s])) changed += " " + s;
            if (m > 1) order.append(changed);
            before = after;
            if (answer != BitmapVolume.OFF) {
                due(what + " wrote", x.count(4) - written, m - 1);
                return order.toString().trim();
            }
            due(what + " failed at " + m + ": count(4)", x.count(4) - written, m - 1);
            due(what + " failed at " + m + ": count(5)", x.count(5), 0);
            due(what + " failed at " + m + ": mend() mends", x.mend() >= 0 ? 1 : 0, 1);
            due(what + " failed at " + m + ": mount()", x.mount(), 1);
        }
        return order + " .. without end";
    }
}
