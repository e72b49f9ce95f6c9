import java.util.Random;

/**
 * No call throws or fails to end, for any arguments in any state: all calls with the greatest, the least and odd
 * numbers, on new, used, full and failed objects, and on disks with whatever OCTETS. What mend() mended is RIGHT.
 */
public final class AnyArgumentsTest {
    private static final int[] ODD = {Integer.MIN_VALUE, Integer.MIN_VALUE + 1, -65536, -129, -8, -1, 0, 1, 2, 7, 15, 16, 17, 18, 22, 34, 40, 63, 64, 100, 101,
        127, 128, 215, 216, 255, 256, 407, 408, 1023, 1024, 1025, 65535, 65536, Integer.MAX_VALUE - 1023, Integer.MAX_VALUE - 1, Integer.MAX_VALUE};
    private static final int CALLS = 25;

    private static long call(BitmapVolume x, int which, int a, int b, int c) {
        switch (which) {
            case 0: return x.format(a, b);
            case 1: return x.octet(a, b);
            case 2: return x.spoil(a, b, c);
            case 3: return x.fail(a);
            case 4: return x.mount();
            case 5: return x.fault(a);
            case 6: return x.unmount();
            case 7: return x.mend();
            case 8: return x.letters((long) a << 32 | b);
            case 9: return x.clear();
            case 10: x.clock(a); return 0;
            case 11: return x.look(a);
            case 12: return x.list(a, b);
            case 13: return x.make(a, b % 2 == 0);
            case 14: return x.write(a, b, c, a + b);
            case 15: return x.write(a, b, 1 + (c & 1023), c);
            case 16: return x.cut(a, b);
            case 17: return x.drop(a);
            case 18: return x.move(a, b);
            case 19: return x.bar(a, b % 2 == 0);
            case 20: return x.read(a, b);
            case 21: return x.told(a, b);
            case 22: return x.letter(a, b);
            case 23: return x.cluster(a, b);
            default: return x.count(a);
        }
    }

    private static BitmapVolume state(int which) {
        switch (which) {
            case 0: return new BitmapVolume();
            case 1: return Due.base();
            case 2: return Edge.some();
            case 3: return Edge.full();
            case 4: return Edge.fails(Edge.some(), 2);
            default: return Due.mounted(100);
        }
    }

    private static void oddNumbers() {
        int calls = 0;
        for (int s = 0; s < 6; s++) {
            for (int which = 0; which < CALLS; which++) {
                for (int a : ODD) {
                    BitmapVolume x = state(s);
                    for (int b : ODD) {
                        x.letters('a' + (b & 3));
                        call(x, which, a, b, a);
                        call(x, which, a, b, ODD[(calls & 31) + 2]);
                        calls += 3;
                    }
                }
            }
        }
        Due.due("LANGUAGE 7: calls that ended", calls, 6 * CALLS * ODD.length * ODD.length * 3);
    }

    /** Numbers that are next to right ones are met more often. */
    private static int octet(Random random) {
        int[] some = {0, 1, 2, 3, 4, 5, 8, 16, 128, 133, 192, 193, 255};
        return random.nextInt(3) == 0 ? random.nextInt(256) : some[random.nextInt(some.length)];
    }

    private static void spoilSome(BitmapVolume x, Random random) {
        for (int i = random.nextInt(40); i >= 0; i--) {
            if (random.nextInt(12) == 0) x.spoil(8, random.nextInt(64), octet(random));
            x.spoil(21 + random.nextInt(16), 32 * random.nextInt(2), octet(random));
            x.spoil(21 + random.nextInt(16), random.nextInt(64), octet(random));
        }
    }

    private static void anyDisks() {
        int mounted = 0;
        for (int seed = 0; seed < 4000; seed++) {
            Random random = new Random(seed);
            BitmapVolume x = Due.base();
            if (random.nextInt(4) == 0) x.spoil(random.nextInt(4), random.nextInt(64), octet(random));
            spoilSome(x, random);
            x.mount();
            x.unmount();
            int mended = x.mend();
            Due.due("9 mend, disk " + seed + ": MENDED, or a FAULT of 1 to 4", mended >= 0 || mended <= -11 && mended >= -14 ? 1 : 0, 1);
            if (mended < 0) continue;
            Due.due("9 mend, disk " + seed + ": nothing is left to mend", x.mend(), 0);
            Due.due("2 MOUNTING, disk " + seed + ": it is RIGHT", x.mount(), 1);
            mounted++;
            for (int i = 0; i < 60; i++) {
                x.letters('e' + random.nextInt(4));
                call(x, random.nextInt(CALLS), ODD[random.nextInt(ODD.length)], ODD[random.nextInt(ODD.length)], random.nextInt(300));
            }
        }
        Due.due("some disks were mended", mounted > 500 ? 1 : 0, 1);
    }

    public static void main(String[] args) {
        oddNumbers();
        anyDisks();
        Due.end();
    }
}
