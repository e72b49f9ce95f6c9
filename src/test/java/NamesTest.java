/** Promises 10 to 14: letters, clear, clock, look, list. */
public final class NamesTest {
    private static void drafts() {
        BitmapVolume x = new BitmapVolume();
        Due.due("10: letters(0)", x.letters(0), 0);
        Due.due("10: one", x.letters(97), 1);
        Due.due("10: three, a 0 between", x.letters(0x0064_0000_0063_0062L), 4);
        Due.due("10: the highest", x.letters(0xFFFF_0000_0000_0000L), 5);
        Due.due("11: clear()", x.clear(), 5);
        Due.due("11: clear() again", x.clear(), 0);
        for (int i = 1; i <= 7; i++) Due.due("10: four more", x.letters(-1L), 4 * i);
        Due.due("10: 31", x.letters(0x0001_0001_0001L), BitmapVolume.BAD);
        Due.due("10: none came", x.letters(0), 28);
        Due.due("10: 30", x.letters(0x0001_0000_0001L), 30);
        Due.due("10: 31", x.letters(1), BitmapVolume.BAD);
        Due.due("10: no more", x.letters(0), 30);
    }

    private static void orderOfLetters() {
        BitmapVolume x = Due.mounted(16);
        x.letters(0x0064_0000_0063_0062L);
        x.letters(0x0065L << 48);
        int a = x.make(0, false);
        Due.due("10: the lowest first", Due.name(x, a), "bcde");
    }

    private static void taken() {
        BitmapVolume x = Due.mounted(16);
        x.letters(97);
        x.look(0);
        Due.due("4: look() takes it", x.clear(), 0);
        x.letters(97);
        x.look(5);
        Due.due("4: look() that is BAD takes it", x.clear(), 0);
        x.letters(97);
        x.make(3, true);
        Due.due("4: make() that is BAD takes it", x.clear(), 0);
        x.letters(97);
        x.move(3, 0);
        Due.due("4: move() that is BAD takes it", x.clear(), 0);
        x.unmount();
        x.letters(97);
        Due.due("13: look()", x.look(0), BitmapVolume.STATE);
        Due.due("4: look() not mounted takes it", x.clear(), 0);
        x.letters(97);
        Due.due("15: make()", x.make(0, false), BitmapVolume.STATE);
        Due.due("4: make() not mounted takes it", x.clear(), 0);
        x.letters(97);
        Due.due("19: move()", x.move(18, 0), BitmapVolume.STATE);
        Due.due("4: move() not mounted takes it", x.clear(), 0);
        x.letters(97);
        x.mount();
        x.list(0, 0);
        x.told(0, 0);
        x.drop(18);
        Due.due("4: others do not", x.clear(), 1);
    }

    private static void names() {
        BitmapVolume x = Due.mounted(16);
        for (int v = 1; v < 300; v++) {
            if (v % 100 == 0) x = Due.mounted(16);
            boolean is = v >= 32 && v <= 126 || v >= 160 && v <= 255;
            if ("\"*/:<>?\\|".indexOf(v) >= 0) is = false;
            x.letters(v);
            x.letters(97);
            Due.due("13: letter " + v, x.look(0), is ? BitmapVolume.NONE : BitmapVolume.NAME);
        }
        x.letters(65535);
        Due.due("13: letter 65535", x.look(0), BitmapVolume.NAME);
        Due.due("13: no letter", x.look(0), BitmapVolume.NAME);
        String[] bad = {" ", ".", "a ", "a.", "..", "a. "};
        for (String b : bad) Due.due("13: [" + b + "]", Due.look(x, 0, b), BitmapVolume.NAME);
        String[] good = {" a", ".a", "a.b", "a b", "~", "abcdefghijklmnopqrstuvwxyz0123"};
        for (String g : good) Due.due("13: [" + g + "]", Due.look(x, 0, g), BitmapVolume.NONE);
        Due.due("13: BAD before NAME", Due.look(x, 1, "*"), BitmapVolume.BAD);
    }

    private static void likes() {
        BitmapVolume x = Due.mounted(40);
        int a = Due.file(x, 0, "aZ\u00e0\u00f6\u00f7\u00fe\u00ff");
        Due.due("13: itself", Due.look(x, 0, "aZ\u00e0\u00f6\u00f7\u00fe\u00ff"), a);
        Due.due("13: great ones", Due.look(x, 0, "Az\u00c0\u00d6\u00f7\u00de\u00ff"), a);
        Due.due("13: 247 is its own", Due.look(x, 0, "aZ\u00e0\u00f6\u00d7\u00fe\u00ff"), BitmapVolume.NONE);
        Due.due("13: 255 is its own", Due.look(x, 0, "aZ\u00e0\u00f6\u00f7\u00fe\u00df"), BitmapVolume.NONE);
        Due.due("13: fewer letters", Due.look(x, 0, "aZ\u00e0\u00f6\u00f7\u00fe"), BitmapVolume.NONE);
        Due.due("13: a file is no DIRECTORY", Due.look(x, a, "q"), BitmapVolume.BAD);
        int d = Due.dir(x, 0, "d");
        int b = Due.file(x, d, "abcdefghijklmnopq");
        Due.due("13: in d", Due.look(x, d, "ABCDEFGHIJKLMNOPQ"), b);
        Due.due("13: not in ROOT", Due.look(x, 0, "ABCDEFGHIJKLMNOPQ"), BitmapVolume.NONE);
        Due.due("13: the 16th letter", Due.look(x, d, "ABCDEFGHIJKLMNOxQ"), BitmapVolume.NONE);
        Due.due("HASH of both", x.told(b, 5), hash("ABCDEFGHIJKLMNOPQ"));
    }

    private static int hash(String great) {
        int s = 0;
        for (char c : great.toCharArray()) s = Due.roll(Due.roll(s, c), 0);
        return s;
    }

    private static void lists() {
        BitmapVolume x = Due.mounted(40);
        int d = Due.dir(x, 0, "d");
        int e = Due.file(x, 0, "e");
        int f = Due.file(x, d, "f");
        Due.due("14: first", x.list(0, 0), d);
        Due.due("14: second", x.list(0, 1), e);
        Due.due("14: third", x.list(0, 2), BitmapVolume.NONE);
        Due.due("14: -1", x.list(0, -1), BitmapVolume.NONE);
        Due.due("14: far", x.list(0, Integer.MAX_VALUE), BitmapVolume.NONE);
        Due.due("14: in d", x.list(d, 0), f);
        Due.due("14: a file", x.list(e, 0), BitmapVolume.BAD);
        Due.due("14: no place", x.list(d + 1, 0), BitmapVolume.BAD);
        Due.due("14: no place", x.list(-4, 0), BitmapVolume.BAD);
        Due.due("14: no place", x.list(Integer.MAX_VALUE, 0), BitmapVolume.BAD);
        x.drop(f);
        Due.due("14: none is left", x.list(d, 0), BitmapVolume.NONE);
        x.drop(d);
        Due.due("14: d went", x.list(d, 0), BitmapVolume.BAD);
        Due.due("14: e is the first", x.list(0, 0), e);
        Due.due("14: the old place is used again", Due.file(x, 0, "g"), d);
        Due.due("14: in order of places", x.list(0, 0), d);
        x.unmount();
        Due.due("14: not mounted", x.list(0, 0), BitmapVolume.STATE);
    }

    private static void clocks() {
        BitmapVolume x = Due.mounted(16);
        x.clock(7);
        int a = Due.file(x, 0, "a");
        x.clock(-1);
        x.write(a, 0, 1, 1);
        Due.due("12: made", x.told(a, 7), 7);
        Due.due("12: changed, as u4", x.told(a, 8), -1);
        Due.due("12: on the disk", Due.u4(x, Due.address(a) + 12), -1);
        x.clock(Integer.MIN_VALUE);
        x.cut(a, 1);
        Due.due("12: changed", x.told(a, 8), Integer.MIN_VALUE);
    }

    public static void main(String[] args) {
        drafts();
        orderOfLetters();
        taken();
        names();
        likes();
        lists();
        clocks();
        Due.end();
    }
}
