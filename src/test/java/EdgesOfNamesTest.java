/** Boundary cases that the promises 10 to 14 name: letters, clear, clock, look, list. */
public final class EdgesOfNamesTest {
    private static BitmapVolume drafted(int letters) {
        BitmapVolume x = Edge.some();
        for (int i = 0; i < letters; i++) x.letters('n');
        return x;
    }

    // ---- promise 10

    private static void letters() {
        Edge.by("10 letters", "Up to four letters (u2 each, the lowest first, those that are not 0) come behind THE DRAFT: how many it has.");
        BitmapVolume x = new BitmapVolume();
        Edge.due("none", x.letters(0), 0);
        Edge.due("the lowest", x.letters(1), 1);
        Edge.due("the highest", x.letters(1L << 48), 2);
        Edge.due("the greatest, lowest", x.letters(65535), 3);
        Edge.due("the greatest, highest", x.letters(0xFFFFL << 48), 4);
        Edge.due("all four", x.letters(-1), 8);
        Edge.due("the sign alone", x.letters(Long.MIN_VALUE), 9);
        Edge.due("two with 0s between", x.letters(0x0001_0000_0000_0001L), 11);
        Edge.due("OCTETS that make one u2", x.letters(0x0101), 12);
        x = Due.mounted(16);
        x.letters('a' | (long) 'b' << 16 | (long) 'c' << 32 | (long) 'd' << 48);
        x.letters((long) 'e' << 16 | (long) 'f' << 48);
        int a = x.make(0, false);
        Edge.due("the lowest first, behind those before", Due.name(x, a), "abcdef");
        x.letters('a' + 65536L * 256 * 'b');
        Edge.due("256 times a letter is another one", x.look(0), Edge.NAME);
    }

    private static void tooManyLetters() {
        Edge.by("10 letters", "BAD: there would be more than 30 (none comes).");
        int[][] rows = {{26, 4, 30}, {27, 4, Edge.BAD}, {27, 3, 30}, {28, 3, Edge.BAD}, {29, 1, 30}, {29, 2, Edge.BAD}, {30, 0, 30}, {30, 1, Edge.BAD}, {30, 4, Edge.BAD}};
        long[] w = {0, 'x', 'x' | 120L << 48, 'x' | 120L << 16 | 120L << 32, 'x' | 120L << 16 | 120L << 32 | 120L << 48};
        for (int[] r : rows) {
            String what = r[1] + " to " + r[0];
            if (r[2] == Edge.BAD) Edge.refused(what, () -> drafted(r[0]), x -> x.letters(w[r[1]]), Edge.BAD);
            BitmapVolume x = drafted(r[0]);
            Edge.due(what, x.letters(w[r[1]]), r[2]);
            int due = r[2] == Edge.BAD ? r[0] : r[2];
            Edge.due(what + ": it has", x.clear(), due);
        }
        for (int i = 0; i < 4; i++) {
            long least = 1L << 16 * i, greatest = 65535L << 16 * i;
            Edge.due("the least letter to 30, at " + i, drafted(30).letters(least), Edge.BAD);
            Edge.due("the greatest letter to 30, at " + i, drafted(30).letters(greatest), Edge.BAD);
            Edge.due("the least letter to 29, at " + i, drafted(29).letters(least), 30);
            Edge.due("the greatest letter to 29, at " + i, drafted(29).letters(greatest), 30);
        }
        BitmapVolume x = drafted(28);
        x.letters(w[3]);
        int a = x.make(0, false);
        Edge.due("none came", Due.name(x, a), "n".repeat(28));
        Edge.by("4 CALLS", "THE DRAFT is a row of letters, 30 at most.");
        x = drafted(30);
        a = x.make(0, false);
        Edge.due("30", Due.name(x, a), "n".repeat(30));
    }

    // ---- promises 11 and 12

    private static void clear() {
        Edge.by("11 clear", "THE DRAFT is empty: how many it had.");
        for (int n : new int[] {0, 1, 30}) {
            BitmapVolume x = drafted(n);
            Edge.due(n + " letters", x.clear(), n);
            Edge.due(n + " letters: empty", x.letters(0), 0);
            Edge.due(n + " letters: again", x.clear(), 0);
        }
        BitmapVolume x = drafted(30);
        x.clear();
        Edge.due("there is room again", x.letters(-1), 4);
        Edge.due("not mounted", Edge.off(drafted(3)).clear(), 3);
    }

    private static void clock() {
        Edge.by("12 clock", "Time is t (as u4).");
        for (int t : new int[] {0, 1, 255, 256, 65536, -1, Edge.LEAST, Edge.MOST}) {
            BitmapVolume x = Edge.some();
            int written = x.count(4);
            x.clock(t);
            Edge.due("nothing is WRITTEN", x.count(4), written);
            int e = Due.file(x, 34, "e");
            Edge.due("made at " + t, x.told(e, 7), t);
            Edge.due("on the disk", Due.u4(x, Due.address(e) + 8), t);
            Edge.due("of others not", x.told(18, 8), 0);
            Edge.dueRight("time " + t, x);
        }
        BitmapVolume x = new BitmapVolume();
        x.clock(7);
        x.format(16, 1);
        x.mount();
        x.clock(8);
        x.clock(9);
        int a = Due.file(x, 0, "a");
        Edge.due("the latest one", x.told(a, 7), 9);
    }

    // ---- promise 13

    private static final int[] NO_DIRECTORIES = {Edge.LEAST, -34, -1, 1, 2, 3, 4, 16, 17, 18, 19, 22, 33, 35, 36, 40, 84, 88, 400, 408, 1 << 30, Edge.MOST};

    private static void look() {
        Edge.by("13 look", "The PLACE of the SET in a DIRECTORY whose NAME is LIKE THE DRAFT; NONE.");
        BitmapVolume x = Edge.some();
        Edge.due("the first", Due.look(x, 0, "A"), 18);
        Edge.due("the last", Due.look(x, 0, "D"), 34);
        Edge.due("in a DIRECTORY", Due.look(x, 34, "C"), 40);
        Edge.due("in another", Due.look(x, 0, "c"), Edge.NONE);
        Edge.due("a letter more", Due.look(x, 0, "aa"), Edge.NONE);
        int e = Due.dir(x, 34, "e");
        Edge.due("an empty DIRECTORY", Due.look(x, e, "a"), Edge.NONE);
        x.drop(40);
        Edge.due("it went", Due.look(x, 34, "c"), Edge.NONE);
        Edge.due("THE DRAFT is empty", x.clear(), 0);
        String long30 = "x".repeat(29);
        int f = Due.file(x, 0, long30 + "y");
        Edge.due("thirty letters", Due.look(x, 0, long30 + "Y"), f);
        Edge.due("another as the last of thirty", Due.look(x, 0, long30 + "z"), Edge.NONE);
        Edge.due("one less than thirty", Due.look(x, 0, long30), Edge.NONE);
        Edge.due("a new volume", Due.look(Due.mounted(16), 0, "a"), Edge.NONE);
    }

    private static void lookRefused() {
        Edge.by("13 look", "STATE; BAD: no DIRECTORY; NAME.");
        for (int p : NO_DIRECTORIES) {
            Edge.refusedWith("a", "look(" + p + ")", Edge::some, x -> x.look(p), Edge.BAD);
            Edge.refusedWith("*", "look(" + p + ") of no NAME", Edge::some, x -> x.look(p), Edge.BAD);
            Edge.refusedWith("*", "look(" + p + ") not mounted", Due::base, x -> x.look(p), Edge.STATE);
        }
        for (String s : new String[] {"", " ", ".", "a ", "a.", "*", "a*a", "\u007f", "\u0100", "\uffff"}) {
            Edge.refusedWith(s, "look(0) of [" + s + "]", Edge::some, x -> x.look(0), Edge.NAME);
            Edge.refusedWith(s, "look(34) of [" + s + "]", Edge::some, x -> x.look(34), Edge.NAME);
        }
        Edge.refusedWith("a", "look(0) of a new object", BitmapVolume::new, x -> x.look(0), Edge.STATE);
    }

    // ---- promise 14

    private static void list() {
        Edge.by("14 list", "The PLACE of the i-th SET of a DIRECTORY (from 0), in order; NONE.");
        BitmapVolume x = Edge.some();
        int[] root = {18, 22, 34, Edge.NONE, Edge.NONE};
        for (int i = 0; i < root.length; i++) Edge.due("list(0, " + i + ")", x.list(0, i), root[i]);
        Edge.due("list(34, 0)", x.list(34, 0), 40);
        Edge.due("list(34, 1)", x.list(34, 1), Edge.NONE);
        for (int i : new int[] {-1, 100, Edge.LEAST, Edge.MOST}) Edge.due("list(0, " + i + ")", x.list(0, i), Edge.NONE);
        x.drop(22);
        Edge.due("one went: the next comes up", x.list(0, 1), 34);
        Edge.due("one went: one less", x.list(0, 2), Edge.NONE);
        int e = Due.file(x, 0, "e");
        Edge.due("a new one at its place", x.list(0, 1) * 1000 + e, 22022);
        Edge.due("an empty ROOT", Due.mounted(16).list(0, 0), Edge.NONE);
        x.drop(40);
        Edge.due("an empty DIRECTORY", x.list(34, 0), Edge.NONE);
        Edge.by("14 list", "STATE; BAD: no DIRECTORY.");
        for (int p : NO_DIRECTORIES) {
            Edge.refused("list(" + p + ", 0)", Edge::some, y -> y.list(p, 0), Edge.BAD);
            Edge.refused("list(" + p + ", -1) not mounted", Due::base, y -> y.list(p, -1), Edge.STATE);
        }
        Edge.refused("list(0, 0) not mounted", Due::base, y -> y.list(0, 0), Edge.STATE);
    }

    public static void main(String[] args) {
        letters();
        tooManyLetters();
        clear();
        clock();
        look();
        lookRefused();
        list();
        Due.end();
    }
}
