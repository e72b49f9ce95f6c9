/** Boundary cases that "1 THE DISK" and "Terms" name. */
public final class EdgesOfTermsTest {
    private static void by(String words) {
        Edge.by("Terms", words);
    }

    // ---- 1 THE DISK

    private static void disk() {
        Edge.by("1 THE DISK", "has 216 SECTORS of 64 OCTETS.");
        BitmapVolume x = new BitmapVolume();
        Edge.due("the last OCTET", x.spoil(215, 63, 9) * 1000 + x.octet(215, 63), 9);
        Edge.due("the first OCTET of the last SECTOR", x.octet(215, 0), 0);
        Edge.due("a SECTOR more", x.octet(216, 0), Edge.BAD);
        Edge.due("an OCTET more", x.octet(0, 64), Edge.BAD);
        Edge.due("a SECTOR less", x.octet(-1, 0), Edge.BAD);
        Edge.due("an OCTET less", x.octet(1, -1), Edge.BAD);
    }

    private static void numbersLaid() {
        Edge.by("1 THE DISK", "u1, u2, u4, u8 are numbers without a sign of so many OCTETS, the lowest first.");
        BitmapVolume x = new BitmapVolume();
        x.format(16, 0x84030201);
        for (int i = 0; i < 3; i++) Edge.due("SERIAL's OCTET " + i, x.octet(0, 40 + i), i + 1);
        Edge.due("SERIAL's highest OCTET", x.octet(0, 43), 0x84);
        x.mount();
        x.clock(0x80000102);
        int a = Due.file(x, 0, "a");
        Edge.due("a time with its highest bit", Due.at(x, Due.address(a) + 11), 128);
        Edge.due("its lowest OCTET", Due.at(x, Due.address(a) + 8), 2);
        Edge.due("as an int", x.told(a, 7), 0x80000102);
        x.unmount();
        Edge.due("it is RIGHT", x.mount(), 1);
    }

    /** A number that would be right if its higher OCTETS, or its sign, did not count. */
    private static void numbersTooGreat() {
        Edge.by("1 THE DISK", "u1, u2, u4, u8 are numbers without a sign of so many OCTETS, the lowest first.");
        for (int i = 1; i < 4; i++) {
            for (int v : new int[] {1, 128, 255}) {
                String high = "with " + v + " as OCTET " + i;
                BitmapVolume x = Due.base();
                x.spoil(0, 32 + i, v);
                Due.put(x, 16, 4, 16 + 2 * (20 + ((long) v << 8 * i)));
                Edge.resum(x);
                Edge.due("N " + high, x.mount(), 2);
                x = Due.base();
                x.spoil(0, 36 + i, v);
                Edge.resum(x);
                Edge.due("ROOT " + high, x.mount(), 2);
                x = Due.base();
                x.spoil(8, 16 + i, v);
                Edge.dueFault("FAT of ROOT " + high, x, 3, 4, 0);
                x = Due.base();
                x.spoil(20, 20 + i, v);
                Edge.dueFault("BITMAP's CLUSTER " + high, x, 4, 4, 0);
                x = Due.base();
                x.spoil(20, 52 + i, v);
                Edge.dueFault("CASES' CLUSTER " + high, x, 4, 4, 1);
                x = Due.base();
                x.spoil(21, 52 + i, v);
                Due.seal(x, 21, 22);
                Edge.dueFault("the first CLUSTER " + high, x, 5, 4, 2);
            }
        }
        for (int i = 1; i < 8; i++) {
            BitmapVolume x = Due.base();
            x.spoil(20, 24 + i, 128);
            Edge.dueFault("BITMAP's OCTETS with 128 as OCTET " + i, x, 4, 4, 0);
            x = Due.base();
            x.spoil(20, 56 + i, 128);
            Edge.dueFault("CASES' OCTETS with 128 as OCTET " + i, x, 4, 4, 1);
            x = Due.base();
            Edge.putLength(x, 21, 200 + (128L << 8 * i));
            Due.seal(x, 21, 22);
            Edge.dueFault("LENGTH with 128 as OCTET " + i, x, 5, 4, 2);
        }
    }

    // ---- CLUSTERS

    private static void clusters() {
        by("A volume has N CLUSTERS (16 .. 100), numbered 2 .. N + 1, of 128 OCTETS: CLUSTER c is the SECTORS 16 + 2 (c - 2) and the next one.");
        for (int n : new int[] {16, 17, 99, 100}) {
            BitmapVolume x = Due.mounted(n);
            int a = Due.file(x, 0, "a");
            int length = 0;
            for (int i = 0; i < 12 && length < 128 * (n - 4); i++) length = x.write(a, length, Math.min(1024, 128 * (n - 4) - length), length);
            Edge.due("N " + n + ": all that are free", length, 128 * (n - 4));
            Edge.due("N " + n + ": the last one is N + 1", x.cluster(a, n - 5), n + 1);
            Edge.due("N " + n + ": none is behind it", x.cluster(a, n - 4), Edge.NONE);
            Edge.due("N " + n + ": its last OCTET", x.octet(15 + 2 * n, 63), length - 1 & 255);
            Edge.due("N " + n + ": its first OCTET", x.octet(14 + 2 * n, 0), length - 128 & 255);
            Edge.due("N " + n + ": nothing lies behind it", n < 100 ? x.octet(16 + 2 * n, 0) : x.octet(216, 0), n < 100 ? 0 : Edge.BAD);
            Edge.due("N " + n + ": CLUSTER 2 is SECTOR 16", x.octet(16, 0), 255);
            Edge.dueRight("N " + n, x);
        }
        for (int n : new int[] {0, 15, 101, 255}) {
            BitmapVolume x = Due.base();
            Due.put(x, 16, 4, 16 + 2 * n);
            x.spoil(0, 32, n);
            Edge.resum(x);
            Edge.due("N " + n + " on the disk", x.mount(), 2);
        }
    }

    // ---- BOOT REGION

    private static void bootOctets() {
        by("Its second and third: 62 u1 85, 63 u1 170; the others are 0.");
        for (int i = 64; i < 192; i++) dueOctet(i);
        by("16 u4 how many SECTORS the volume has (16 + 2 N), 20 u4 8, 24 u4 7, 28 u4 16, 32 u4 N, 36 u4 the first CLUSTER of ROOT, 40 u4 the SERIAL, 44 u2 FLAGS");
        for (int i = 16; i < 44; i++) dueOctet(i);
        by("0 u1 235, 1 u1 118, 2 u1 144, 3 the eight OCTETS 69 88 70 65 84 32 32 32");
        for (int i = 0; i < 16; i++) dueOctet(i);
        by("62 u1 85, 63 u1 170; the others are 0. Its second");
        for (int i = 44; i < 64; i++) dueOctet(i);
        by("Its fourth: 16 times u4 THE SUM of the three");
        for (int i = 0; i < 64; i++) {
            BitmapVolume x = Due.base();
            x.spoil(3, i, x.octet(3, i) ^ 1);
            Edge.due("OCTET " + i + " is another", x.mount(), 2);
        }
    }

    /** An OCTET of the first region becomes another, THE SUM is right then: no region is right so, but for another SERIAL. */
    private static void dueOctet(int i) {
        BitmapVolume x = Due.base();
        Due.put(x, i, 1, Due.at(x, i) ^ 128);
        Edge.resum(x);
        Edge.due("OCTET " + i + " is another", x.mount(), i >= 40 && i < 44 ? 1 : 2);
    }

    private static void flags() {
        by("44 u2 FLAGS (bit 1, that is 2: DIRTY; others 0)");
        for (int bit = 0; bit < 16; bit++) {
            BitmapVolume x = Due.base();
            Due.put(x, 44, 2, 1 << bit);
            Edge.due("bit " + bit, x.mount(), bit == 1 ? 1 : 2);
            x = Due.base();
            Due.put(x, 44, 2, 2 | 1 << bit);
            Edge.due("DIRTY and bit " + bit, x.mount(), bit == 1 ? 1 : 2);
        }
        BitmapVolume x = Due.base();
        Edge.due("none", x.octet(0, 44) + x.octet(0, 45), 0);
        x.mount();
        Edge.due("none: not DIRTY", x.count(3), 0);
        x.unmount();
        x.spoil(0, 44, 2);
        x.mount();
        Edge.due("2: DIRTY", x.count(3), 1);
    }

    private static void percents() {
        by("49 u1 PERCENT (of the CLUSTERS that are taken, cut; 255: not known)");
        for (int v = 0; v < 256; v++) {
            BitmapVolume x = Due.base();
            x.spoil(0, 49, v);
            Edge.due("PERCENT " + v, x.mount(), v <= 100 || v == 255 ? 1 : 2);
        }
        int[][] rows = {{16, 18}, {17, 17}, {29, 10}, {30, 10}, {31, 9}, {100, 3}};
        for (int[] r : rows) Edge.due("3 of " + r[0], Edge.off(Due.mounted(r[0])).octet(0, 49), r[1]);
        Edge.due("all of 20", Edge.off(Edge.full()).octet(0, 49), 100);
        BitmapVolume x = Edge.full();
        x.cut(18, 1408);
        Edge.due("19 of 20", Edge.off(x).octet(0, 49), 95);
    }

    private static void sumOfBoot() {
        by("s is (2147483648 if s is odd, else 0) + s / 2 + that, modulo 2^32.");
        BitmapVolume x = Edge.rooted(48, 15, (int) 4277131190L);
        Edge.due("a SUM that went over 2^32 on its way", Due.u4(x, 192), 125);
        Edge.due("it is right", x.mount(), 1);
        Edge.due("ROOT", x.told(0, 2), 15);
        x = new BitmapVolume();
        x.format(16, -1);
        long sum = 0;
        for (int i = 0; i < 192; i++) if (i != 44 && i != 45 && i != 49) sum = Due.roll32(sum, Due.at(x, i));
        for (int i = 0; i < 16; i++) Edge.due("of SERIAL -1, u4 " + i, Due.u4(x, 192 + 4 * i), (int) sum);
    }

    private static void sumPassesOver() {
        by("for each OCTET in order, but 44, 45, 49 of the first");
        BitmapVolume x = Due.mounted(16);
        int sum = Due.u4(x, 192);
        Due.file(x, 0, "a");
        Edge.due("DIRTY does not count", x.octet(0, 44) * 10 + (Due.u4(x, 192) == sum ? 1 : 0), 21);
        x.unmount();
        Edge.due("PERCENT does not count", x.octet(0, 49) * 10 + (Due.u4(x, 192) == sum ? 1 : 0), 251);
        x.spoil(0, 44, 2);
        Edge.due("it is right all the same", x.mount(), 1);
    }

    // ---- FAT

    private static void fat() {
        by("of others: 0 nothing, 4294967295 END, or the next CLUSTER of a chain.");
        for (long v = Edge.END - 8; v < Edge.END; v++) {
            BitmapVolume x = Due.base();
            Due.setFat(x, 11, v);
            Edge.dueFault(v + " is no END", x, 3, 11, 0);
        }
        by("0: 4294967288, 1: 4294967295");
        Edge.due("of 0", Due.fat(Due.base(), 0), -8);
        Edge.due("of 1", Due.fat(Due.base(), 1), -1);
        for (int i = 0; i < 8; i++) {
            BitmapVolume x = Due.base();
            x.spoil(8, i, x.octet(8, i) ^ 1);
            Edge.dueFault("OCTET " + i, x, 2, i / 4, 0);
        }
    }

    private static void notLookedAt() {
        by("SECTOR 15, and what lies behind the FAT's number N + 1, is not looked at.");
        for (int n : new int[] {16, 100}) {
            BitmapVolume x = new BitmapVolume();
            x.format(n, 1);
            for (int a = 8 * 64 + 4 * (n + 2); a < 16 * 64; a++) Due.put(x, a, 1, 5);
            Edge.due("N " + n + ": mount()", x.mount(), 1);
            x.unmount();
            Edge.due("N " + n + ": mend()", x.mend(), 0);
        }
        BitmapVolume x = Due.base();
        Due.setFat(x, 21, 7);
        Due.setFat(x, 12, 7);
        Edge.due("nor that of a CLUSTER that is free", x.mount(), 1);
    }

    // ---- ENTRIES

    private static void types() {
        by("of which the first is the TYPE (those below 128 are UNUSED)");
        for (int v = 1; v < 256; v++) {
            BitmapVolume x = Due.base();
            x.spoil(34, 32, v);
            Edge.due("TYPE " + v, x.mount(), v < 128 ? 1 : -15);
        }
    }

    private static void fourEntries() {
        by("a CLUSTER of a DIRECTORY has 4.");
        BitmapVolume x = Due.mounted(20);
        int d = Due.dir(x, 0, "d");
        int a = Due.file(x, d, "a".repeat(16));
        Edge.due("four ENTRIES fill its CLUSTER", a - 4 * x.cluster(d, 0) + x.told(d, 1), 128);
        Edge.dueRight("a SET that ends with its DIRECTORY", x);
        int b = Due.file(x, d, "b");
        Edge.due("three more lie in the next one", b - 4 * x.cluster(d, 1) + x.told(d, 1), 256);
        Edge.due("its ENTRY 3 is no place", x.told(b + 3, 0), Edge.BAD);
        Edge.dueRight("d", x);
    }

    private static void notNamed() {
        by("What is not named in an ENTRY is 0.");
        int[][] base = {{1, 19}, {33, 35}, {40, 51}};
        for (int[] r : base) {
            for (int i = r[0]; i <= r[1]; i++) {
                for (int v : new int[] {1, 255}) {
                    BitmapVolume x = Due.base();
                    x.spoil(20, i, v);
                    Edge.dueFault((i < 32 ? "BITMAP's OCTET " : "CASES' OCTET ") + i % 32 + " is " + v, x, 4, 4, i / 32);
                }
            }
        }
        int[][] set = {{6, 7}, {16, 31}, {34, 34}, {38, 39}, {48, 51}, {65, 65}};
        for (int[] r : set) {
            for (int i = r[0]; i <= r[1]; i++) {
                BitmapVolume x = Due.base();
                x.spoil(21 + i / 64, i % 64, 1);
                Due.seal(x, 21, 22);
                Edge.dueFault("OCTET " + i + " of a SET", x, 5, 4, 2);
            }
        }
        BitmapVolume x = Due.mounted(20);
        Due.file(x, 0, "n".repeat(16));
        x.unmount();
        x.spoil(22, 33, 1);
        Due.seal(x, 21, 22);
        Edge.dueFault("OCTET 1 of a second NAME", x, 5, 4, 2);
    }

    private static void bitmapOctets() {
        by("24 u8 how many OCTETS ((N + 7) / 8).");
        int[][] rows = {{16, 2}, {17, 3}, {24, 3}, {25, 4}, {96, 12}, {97, 13}, {100, 13}};
        for (int[] r : rows) {
            BitmapVolume x = new BitmapVolume();
            x.format(r[0], 1);
            Edge.due("N " + r[0], x.octet(20, 24), r[1]);
            x.spoil(20, 24, r[1] - 1);
            Edge.dueFault("N " + r[0] + ", one less", x, 4, 4, 0);
            x.spoil(20, 24, r[1] + 1);
            Edge.dueFault("N " + r[0] + ", one more", x, 4, 4, 0);
            x.spoil(20, 24, r[1]);
            Edge.due("N " + r[0], x.mount(), 1);
            x.unmount();
            for (int i = r[1]; i < 32; i++) x.spoil(16, i, 255);
            Edge.due("N " + r[0] + ", what lies behind them is not the BITMAP", x.mount(), 1);
            x.unmount();
            x.spoil(16, 1, 1);
            Edge.due("N " + r[0] + ", nor is it mended", x.mend() * 1000 + x.octet(16, r[1]), 1255);
        }
    }

    private static void bits() {
        by("Bit c - 2 of it (bit i is bit i % 8, the lowest is 0, of OCTET i / 8) is 1 when CLUSTER c is taken; bits behind N are 0.");
        for (int n : new int[] {17, 20, 23, 100}) {
            for (int i = 3; i < 8 * ((n + 7) / 8); i++) {
                BitmapVolume x = new BitmapVolume();
                x.format(n, 1);
                x.spoil(16, i / 8, x.octet(16, i / 8) | 1 << i % 8);
                Edge.dueFault("N " + n + ": bit " + i, x, 9, 0, 0);
                Edge.dueMend("N " + n + ": bit " + i, x, 1);
                Edge.due("N " + n + ": bit " + i + " is 0", x.octet(16, i / 8) >> i % 8 & 1, 0);
            }
        }
        BitmapVolume x = Edge.full();
        Edge.due("all are taken, bits behind N are 0", x.octet(16, 0) * 1000000 + x.octet(16, 1) * 1000 + x.octet(16, 2), 255255015);
        x = Due.mounted(24);
        int a = Due.file(x, 0, "a");
        for (int i = 0; i < 20; i++) x.write(a, 128 * i, 128, 0);
        Edge.due("24 CLUSTERS fill three OCTETS", x.octet(16, 2) * 1000 + x.octet(16, 3), 255000);
    }

    // ---- CASES

    private static void tableOctets() {
        by("24 u8 how many OCTETS (an even number, 2 .. 128).");
        int[][] sizes = {{0, -14}, {1, -14}, {2, 1}, {3, -14}, {4, 1}, {126, 1}, {127, -14}, {128, 1}, {129, -14}, {130, -14}};
        for (int[] z : sizes) {
            BitmapVolume x = Due.withCases(new int[64]);
            long sum = 0;
            for (int i = 0; i < z[0]; i++) sum = Due.roll32(sum, Due.at(x, 18 * 64 + i));
            Due.put(x, 20 * 64 + 32 + 4, 4, sum);
            Due.put(x, 20 * 64 + 32 + 24, 4, z[0]);
            Edge.due(z[0] + " OCTETS", x.mount(), z[1]);
        }
    }

    private static void tableSum() {
        by("CASES (130): 4 u4 its SUM (as above, over all its OCTETS)");
        int[] wraps = {244, 90, 230, 229, 242, 189, 241, 95, 245, 80, 226, 82, 127, 248, 193, 96, 214, 100, 199, 66, 206, 82, 109, 142};
        Edge.due("a SUM that went over 2^32 on its way", Due.withCases(wraps).mount(), 1);
        for (int i = 0; i < 4; i++) {
            BitmapVolume x = Due.base();
            x.spoil(20, 36 + i, x.octet(20, 36 + i) ^ 128);
            Edge.dueFault("OCTET " + i + " of it is another", x, 4, 4, 1);
        }
        for (int i : new int[] {0, 63, 64, 126}) {
            BitmapVolume x = Due.withCases(new int[64]);
            x.spoil(18 + i / 64, i % 64, 1 + i % 2);
            Edge.dueFault("OCTET " + i + " of the table is another", x, 4, 4, 1);
        }
        BitmapVolume x = Due.withCases(65535, 97);
        x.spoil(18, 4, 77);
        x.spoil(17, 63, 77);
        Edge.due("OCTETS ahead of the table and behind it do not count", x.mount(), 1);
    }

    private static BitmapVolume mountedWith(int... table) {
        BitmapVolume x = Due.withCases(table);
        x.mount();
        return x;
    }

    private static void tableRuns() {
        by("but 65535 and a number n: the next n letters are their own.");
        BitmapVolume x = mountedWith(65535, 97, 65535, 0, 98);
        int a = Due.file(x, 0, "a");
        Edge.due("of none: a is LIKE b", Due.look(x, 0, "b"), a);
        x = mountedWith(65535, 96, 65535, 1, 98);
        a = Due.file(x, 0, "a");
        Edge.due("of one: a is LIKE b", Due.look(x, 0, "b"), a);
        x = mountedWith(65535, 98, 97);
        a = Due.file(x, 0, "a");
        Edge.due("of one more: b is LIKE a", Due.look(x, 0, "b"), a);
        Edge.due("a is its own", x.told(a, 5), Due.roll(Due.roll(0, 97), 0));
        by("Letters behind the table are their own.");
        x = mountedWith(65535, 97, 65);
        a = Due.file(x, 0, "a");
        Edge.due("the last that it tells of", Due.look(x, 0, "A"), a);
        int b = Due.file(x, 0, "b");
        Edge.due("the first behind it", Due.look(x, 0, "B"), Edge.NONE);
        Edge.due("its HASH", x.told(b, 5), Due.roll(Due.roll(0, 98), 0));
        x = mountedWith(97);
        x.unmount();
        x.format(20, 1);
        Edge.due("no letter of a table that was before stays", x.mount(), 1);
        int c = Due.file(x, 0, "\u00ff");
        Edge.due("the last of all", x.told(c, 5), Due.roll(Due.roll(0, 255), 0));
    }

    private static void tableRight() {
        by("It is right if it tells of at most 256 letters in all");
        Edge.due("255 and one", Due.withCases(65535, 255, 255).mount(), 1);
        Edge.due("256 and one", Due.withCases(65535, 256, 255).mount(), -14);
        Edge.due("256", Due.withCases(65535, 256).mount(), 1);
        Edge.due("257", Due.withCases(65535, 257).mount(), -14);
        Edge.due("256 and none", Due.withCases(65535, 256, 65535, 0).mount(), 1);
        Edge.due("256 and one of its own", Due.withCases(65535, 256, 65535, 1).mount(), -14);
        Edge.due("200 and 56", Due.withCases(65535, 200, 65535, 56).mount(), 1);
        Edge.due("200 and 57", Due.withCases(65535, 200, 65535, 57).mount(), -14);
        Edge.due("65535", Due.withCases(65535, 65535).mount(), -14);
        Edge.due("twice 32768", Due.withCases(65535, 32768, 65535, 32768).mount(), -14);
        Edge.due("one", Due.withCases(0).mount(), 1);
        Edge.due("none", Due.withCases(65535, 0).mount(), 1);
        by("nothing lacks behind a 65535");
        Edge.due("a number lacks", Due.withCases(65535).mount(), -14);
        Edge.due("a number lacks at the end", Due.withCases(65535, 5, 65535).mount(), -14);
        by("and each great letter is below 256 and is its own.");
        Edge.due("255", Due.withCases(255).mount(), 1);
        Edge.due("256", Due.withCases(256).mount(), -14);
        Edge.due("65534", Due.withCases(65534).mount(), -14);
        Edge.due("it is another's before", Due.withCases(1, 2).mount(), -14);
        Edge.due("it is its own before", Due.withCases(0, 0).mount(), 1);
        Edge.due("it becomes another's behind it", Due.withCases(2, 1, 1).mount(), -14);
        Edge.due("it is its own behind the table", Due.withCases(200).mount(), 1);
        Edge.due("it is its own behind it", Due.withCases(1, 1).mount(), 1);
        Edge.due("two of each other", Due.withCases(1, 0).mount(), -14);
    }

    // ---- SETS

    private static void following() {
        by("FILE (133): 1 u1 how many ENTRIES follow in its SET");
        for (int v : new int[] {0, 1, 3}) {
            BitmapVolume x = Due.base();
            x.spoil(21, 1, v);
            if (v > 0) Due.seal(x, 21, 22);
            Edge.dueFault(v + " for one NAME", x, 5, 4, 2);
        }
        for (int v : new int[] {4, 5, 128, 254, 255}) {
            BitmapVolume x = Due.base();
            x.spoil(21, 1, v);
            Edge.dueFault(v + " for one NAME", x, 5, 4, 2);
        }
    }

    private static void typesOfSets() {
        int[][] heads = {{0, 128}, {0, 132}, {0, 134}, {0, 192}, {0, 255}, {32, 0}, {32, 64}, {32, 128}, {32, 133}, {32, 191}, {32, 193}};
        for (int[] h : heads) {
            by(h[0] == 0 ? "FILE (133)" : "STREAM (192)");
            BitmapVolume x = Due.base();
            x.spoil(21, h[0], h[1]);
            Due.seal(x, 21, 22);
            Edge.dueFault("TYPE " + h[1], x, 5, 4, 2);
        }
        by("NAME (193)");
        for (int type : new int[] {0, 65, 128, 192, 194, 255}) {
            BitmapVolume x = Due.base();
            x.spoil(22, 0, type);
            Due.seal(x, 21, 22);
            Edge.dueFault("TYPE " + type, x, 5, 4, 2);
        }
    }

    /** UNUSED ENTRIES whose OCTETS are 77: what is laid over them is right. */
    private static void laidOver() {
        by("What is not named in an ENTRY is 0.");
        for (int letters : new int[] {1, 15, 16, 30}) {
            BitmapVolume x = Due.mounted(16);
            x.drop(Due.file(x, 0, "a".repeat(30)));
            x.unmount();
            for (int i = 0; i < 128; i++) if (i % 32 != 0) Due.put(x, 21 * 64 + i, 1, 77);
            x.mount();
            Edge.due(letters + " letters", Due.file(x, 0, "n".repeat(letters)), 18);
            Edge.dueRight(letters + " letters", x);
            Edge.due(letters + " letters: FILE's OCTET 31, STREAM's 2", x.octet(21, 31) + x.octet(21, 34), 0);
            Edge.due(letters + " letters: an ENTRY that stays UNUSED", x.octet(22, 34), letters > 15 ? 'n' : 77);
        }
    }

    private static void attributes() {
        by("4 u2 ATTRIBUTES (1 read only, 16 a DIRECTORY; others 0)");
        for (int bit = 0; bit < 16; bit++) {
            BitmapVolume x = Due.base();
            Due.put(x, 29 * 64 + 4, 2, 16 | 1 << bit);
            Due.seal(x, 29, 34);
            boolean is = bit == 0 || bit == 4;
            Edge.due("a DIRECTORY with bit " + bit, x.mount(), is ? 1 : -15);
        }
        by("8 u4 when it was made, 12 u4 when it was changed last.");
        BitmapVolume x = Due.base();
        Due.put(x, 21 * 64 + 8, 4, Edge.END);
        Due.put(x, 21 * 64 + 12, 4, 2147483648L);
        Due.seal(x, 21, 22);
        Edge.due("any time is right", x.mount(), 1);
        Edge.due("the greatest", x.told(18, 7), -1);
        Edge.due("the highest bit", x.told(18, 8), Edge.LEAST);
    }

    private static void streams() {
        by("STREAM (192): 1 u1 1, or 3 (ONE RUN)");
        for (int v = 0; v < 256; v++) {
            BitmapVolume x = Due.base();
            Due.setFat(x, 9, Edge.END);
            x.spoil(23, 33, v);
            Due.seal(x, 23, 28);
            Edge.due("" + v, x.mount(), v == 1 || v == 3 ? 1 : -15);
        }
        by("8 u8 LENGTH once more");
        for (int i = 0; i < 8; i++) {
            BitmapVolume x = Due.base();
            x.spoil(21, 40 + i, x.octet(21, 40 + i) ^ 1);
            Due.seal(x, 21, 22);
            Edge.dueFault("OCTET " + i + " is another", x, 5, 4, 2);
        }
        by("24 u8 LENGTH.");
        for (int i = 0; i < 8; i++) {
            BitmapVolume x = Due.base();
            x.spoil(21, 56 + i, x.octet(21, 56 + i) ^ 1);
            Due.seal(x, 21, 22);
            Edge.dueFault("OCTET " + i + " is another", x, 5, 4, 2);
        }
        by("20 u4 the first CLUSTER (0: none)");
        BitmapVolume x = Due.base();
        Edge.due("none", Due.u4(x, 32 * 64 + 52), 0);
        Due.put(x, 21 * 64 + 52, 4, 0);
        Due.seal(x, 21, 22);
        Edge.dueFault("none, with LENGTH", x, 5, 4, 2);
    }

    private static void setInTwo() {
        by("one behind the other in a DIRECTORY (it may go on in its next CLUSTER)");
        BitmapVolume x = Due.mounted(20);
        int a = Due.file(x, 0, "a");
        x.write(a, 0, 384, 0);
        Due.file(x, 0, "b");
        x.cut(a, 0);
        int c = Due.file(x, 0, "cc");
        Edge.due("the next one has a lower number", Due.clusters(x, 0), "4 5 9 6");
        Edge.due("its FILE and STREAM", c, 4 * 9 + 2);
        Edge.due("its NAME", Due.at(x, Due.address(4 * 6)) * 1000 + Due.u2(x, Due.address(4 * 6) + 4), 193099);
        Edge.due("its NAME is found", Due.look(x, 0, "CC") * 1000 + x.letter(c, 1), 1000 * c + 'c');
        Edge.dueRight("c", x);
        by("A SET: FILE, STREAM, one or two NAMES");
        x = Due.base();
        Due.setFat(x, 4, Edge.END);
        Edge.dueFault("the DIRECTORY ends ahead of its NAME", x, 5, 4, 2);
        x = Due.mounted(20);
        Due.file(x, 0, "a".repeat(29));
        x.unmount();
        Edge.due("a second NAME is ENTRY 1 of ROOT's next CLUSTER", x.octet(22, 32), 193);
        Due.setFat(x, 4, Edge.END);
        Edge.dueFault("the DIRECTORY ends ahead of its NAMES", x, 5, 4, 2);
    }

    private static void evenPlaces() {
        by("the FILE at an even place of the DIRECTORY (from 0).");
        BitmapVolume x = Due.base();
        for (int i = 95; i >= 0; i--) Due.put(x, 32 * 64 + 32 + i, 1, Due.at(x, 32 * 64 + i));
        x.spoil(32, 0, 1);
        Edge.dueFault("a whole SET at place 1", x, 5, 10, 1);
        Edge.dueMend("its three ENTRIES", x, 3);
    }

    private static void sumOfSet() {
        by("THE SET'S SUM: s = 0; for each OCTET of its ENTRIES in order, but 2, 3 of the FILE: s is (32768 if s is odd, else 0) + s / 2 + that, modulo 2^16.");
        int wraps = 0;
        for (int t = 0; t < 40; t++) {
            BitmapVolume x = Due.mounted(16);
            x.clock(-1 - 77 * t);
            int a = Due.file(x, 0, "\u00ff".repeat(16 + t % 15));
            int s = 0;
            for (int i = 0; i < 128; i++) {
                int v = Due.at(x, 21 * 64 + i);
                if (i == 2 || i == 3) continue;
                if (s / 2 + s % 2 * 32768 + v > 65535) wraps++;
                s = Due.roll(s, v);
            }
            Edge.due("of time " + (-1 - 77 * t), x.told(a, 6), s);
        }
        Edge.due("some went over 2^16 on their way", wraps > 0 ? 1 : 0, 1);
        by("2 u2 THE SET'S SUM");
        for (int i = 2; i < 4; i++) {
            BitmapVolume x = Due.base();
            x.spoil(21, i, x.octet(21, i) ^ 128);
            Edge.dueFault("OCTET " + i + " is another", x, 5, 4, 2);
        }
    }

    private static void hashes() {
        by("THE HASH: likewise over the two OCTETS (u2) of the great letter of each letter.");
        BitmapVolume x = Due.mounted(16);
        int a = Due.file(x, 0, "33dkl5");
        Edge.due("one that went over 2^16 on its way", x.told(a, 5), 32774);
        int b = Due.file(x, 0, "z".repeat(30));
        int s = 0;
        for (int i = 0; i < 30; i++) s = Due.roll(Due.roll(s, 'Z'), 0);
        Edge.due("of thirty letters", x.told(b, 5), s);
        Edge.dueRight("both", x);
        for (int i = 36; i < 38; i++) {
            BitmapVolume y = Due.base();
            y.spoil(21, i, y.octet(21, i) ^ 128);
            Due.seal(y, 21, 22);
            Edge.dueFault("OCTET " + i + " is another", y, 5, 4, 2);
        }
    }

    // ---- NAMES

    private static void sizesOfNames() {
        by("A NAME has 1 to 30 letters (the first 15 in the first NAME, the others in the second; 0s behind them)");
        int[][] rows = {{1, 2}, {14, 2}, {15, 2}, {16, 3}, {29, 3}, {30, 3}};
        for (int[] r : rows) {
            BitmapVolume x = Due.mounted(16);
            String name = "abcdefghijklmnopqrstuvwxyz0123".substring(0, r[0]);
            int a = Due.file(x, 0, name);
            Edge.due(r[0] + " letters: ENTRIES that follow", x.octet(21, 1), r[1]);
            Edge.due(r[0] + " letters", Due.name(x, a), name);
            for (int i = 0; i < 15 * (r[1] - 1); i++) {
                int due = i < r[0] ? name.charAt(i) : 0;
                Edge.due(r[0] + " letters: " + i, Due.u2(x, 22 * 64 + 2 * i + (i < 15 ? 2 : 4)), due);
            }
            Edge.dueRight(r[0] + " letters", x);
        }
        for (int v : new int[] {0, 2, 15, 16, 30, 31, 128, 255}) {
            BitmapVolume x = Due.base();
            x.spoil(21, 35, v);
            Due.seal(x, 21, 22);
            Edge.dueFault(v + " for one letter", x, 5, 4, 2);
        }
        for (int i = 4; i < 32; i++) {
            BitmapVolume x = Due.base();
            x.spoil(22, i, 97);
            Due.seal(x, 21, 22);
            Edge.dueFault("no 0 behind it: OCTET " + i, x, 5, 4, 2);
        }
    }

    private static void secondNames() {
        by("A NAME has 1 to 30 letters (the first 15 in the first NAME, the others in the second; 0s behind them)");
        for (int i : new int[] {36, 62, 63}) {
            BitmapVolume x = Due.mounted(16);
            Due.file(x, 0, "n".repeat(16));
            x.unmount();
            x.spoil(22, i, 97);
            Due.seal(x, 21, 22);
            Edge.dueFault("no 0 behind the 16th: OCTET " + i, x, 5, 4, 2);
        }
        BitmapVolume x = Due.mounted(16);
        Due.file(x, 0, "n".repeat(30));
        x.unmount();
        x.spoil(21, 35, 31);
        Due.seal(x, 21, 22);
        Edge.dueFault("31 letters", x, 5, 4, 2);
        x = Due.mounted(16);
        Due.file(x, 0, "n".repeat(16));
        x.unmount();
        x.spoil(22, 32, 192);
        Due.seal(x, 21, 22);
        Edge.dueFault("no second NAME", x, 5, 4, 2);
    }

    /** A SET as a longer NAME would have it: three NAMES, its HASH over as many letters as are told. */
    private static void thirdName() {
        by("A NAME has 1 to 30 letters (the first 15 in the first NAME, the others in the second; 0s behind them)");
        for (int letters : new int[] {30, 31, 45}) {
            BitmapVolume x = Due.mounted(16);
            Due.file(x, 0, "n".repeat(30));
            x.unmount();
            x.spoil(21, 1, 4);
            x.spoil(21, 35, letters);
            x.spoil(23, 0, 193);
            for (int i = 30; i < letters; i++) x.spoil(23, 2 + 2 * (i - 30), 'n');
            Due.seal(x, 21, 22);
            Edge.dueFault(letters + " letters in three NAMES, the HASH of thirty", x, 5, 4, 2);
            int s = 0;
            for (int i = 0; i < letters; i++) s = Due.roll(Due.roll(s, 'N'), 0);
            Due.put(x, 21 * 64 + 36, 2, s);
            Due.seal(x, 21, 22);
            Edge.dueFault(letters + " letters in three NAMES", x, 5, 4, 2);
        }
    }

    private static boolean isLetter(int v) {
        if (v == 34 || v == 42 || v == 47 || v == 58 || v == 60 || v == 62 || v == 63 || v == 92 || v == 124) return false;
        return v >= 32 && v <= 126 || v >= 160 && v <= 255;
    }

    private static int great(int v) {
        boolean small = v >= 97 && v <= 122 || v >= 224 && v <= 254 && v != 247;
        return small ? v - 32 : v;
    }

    /** THE DRAFT, and the first of two letters on the disk: v, then q. */
    private static void letters() {
        by("each 32 .. 126 but \" * / : < > ? \\ | (34 42 47 58 60 62 63 92 124), or 160 .. 255");
        for (int v = 1; v <= 260; v++) {
            BitmapVolume x = Edge.some();
            x.letters(v);
            x.letters('q');
            Edge.due("letter " + v + " in THE DRAFT", x.look(0), isLetter(v) ? Edge.NONE : Edge.NAME);
            if (v % 64 == 0) Edge.due("256 times " + v, lookFor(x, v * 256 - 1), Edge.NAME);
            x = Due.base();
            x.spoil(21, 35, 2);
            Due.put(x, 22 * 64 + 2, 2, v);
            x.spoil(22, 4, 'q');
            int g = great(v);
            Due.put(x, 21 * 64 + 36, 2, Due.roll(Due.roll(Due.roll(Due.roll(0, g % 256), g / 256), 'Q'), 0));
            Due.seal(x, 21, 22);
            Edge.due("letter " + v + " on the disk", x.mount(), isLetter(v) ? 1 : -15);
        }
    }

    private static int lookFor(BitmapVolume x, int letter) {
        x.letters(letter);
        return x.look(0);
    }

    private static void lastLetters() {
        by("not 32 or 46 as the last one.");
        String[] bad = {" ", ".", "q ", "q.", "..", "q. ", "q .", "q".repeat(14) + ".", "q".repeat(29) + " "};
        for (String b : bad) Edge.due("[" + b + "]", Due.look(Edge.some(), 0, b), Edge.NAME);
        String[] good = {" q", ".q", "q.q", "q q", "q!", "q-", "q'", ".".repeat(29) + "q"};
        for (String g : good) Edge.due("[" + g + "]", Due.look(Edge.some(), 0, g), Edge.NONE);
        for (int v : new int[] {32, 46}) {
            BitmapVolume x = Due.base();
            x.spoil(22, 2, v);
            Due.put(x, 21 * 64 + 36, 2, Due.roll(Due.roll(0, v), 0));
            Due.seal(x, 21, 22);
            Edge.dueFault(v + " on the disk", x, 5, 4, 2);
        }
    }

    // ---- files

    private static void lengths() {
        by("A file, or DIRECTORY, of LENGTH l has (l + 127) / 128 CLUSTERS");
        int[][] rows = {{1, 1}, {127, 1}, {128, 1}, {129, 2}, {255, 2}, {256, 2}, {257, 3}, {1024, 8}};
        for (int[] r : rows) {
            BitmapVolume x = Due.mounted(16);
            int a = Due.file(x, 0, "a");
            Edge.due("LENGTH " + r[0], x.write(a, 0, r[0], 0), r[0]);
            Edge.due("LENGTH " + r[0] + ": the last", x.cluster(a, r[1] - 1), 5 + r[1]);
            Edge.due("LENGTH " + r[0] + ": one more", x.cluster(a, r[1]), Edge.NONE);
            Edge.dueRight("LENGTH " + r[0], x);
        }
    }

    private static void withoutAny() {
        by("Without any: no CLUSTER, STREAM's u1 at 1 is 1.");
        BitmapVolume x = Edge.some();
        Edge.due("c", x.told(40, 1) * 100 + x.told(40, 2) * 10 + x.told(40, 3), 0);
        Edge.due("c has none", x.cluster(40, 0), Edge.NONE);
        Edge.due("on the disk", x.octet(32, 33), 1);
        x = Due.base();
        x.spoil(32, 33, 3);
        Due.seal(x, 32, 33);
        Edge.dueFault("3", x, 5, 10, 0);
        for (int c : new int[] {1, 2, 12, 21, 22}) {
            x = Due.base();
            Due.put(x, 32 * 64 + 52, 4, c);
            Due.seal(x, 32, 33);
            Edge.dueFault("CLUSTER " + c, x, 5, 10, 0);
        }
    }

    private static void directories() {
        by("LENGTH of a DIRECTORY: 128 times its CLUSTERS, at least one.");
        for (int length : new int[] {1, 127, 129, 255}) {
            BitmapVolume x = Due.base();
            Edge.putLength(x, 29, length);
            Due.seal(x, 29, 34);
            Edge.dueFault("LENGTH " + length, x, 5, 8, 2);
        }
        BitmapVolume x = Due.base();
        Edge.putLength(x, 29, 0);
        Due.put(x, 29 * 64 + 52, 4, 0);
        x.spoil(29, 33, 1);
        Due.seal(x, 29, 34);
        Edge.dueFault("none", x, 5, 8, 2);
        x = Due.base();
        x.spoil(32, 4, 16);
        Due.seal(x, 32, 33);
        Edge.dueFault("an empty file as a DIRECTORY", x, 5, 10, 0);
        x = Due.base();
        Edge.putLength(x, 29, 256);
        Due.seal(x, 29, 34);
        Edge.dueFault("two, of which the second is ROOT's", x, 7, 8, 2);
        by("ROOT has no SET, and a chain.");
        x = Edge.some();
        Edge.due("two in a row are a chain", Due.fat(x, 4), 5);
        Edge.due("no ONE RUN", x.told(0, 3), 0);
        Edge.due("no letters", x.told(0, 4), 0);
    }

    public static void main(String[] args) {
        disk();
        numbersLaid();
        numbersTooGreat();
        clusters();
        bootOctets();
        flags();
        percents();
        sumOfBoot();
        sumPassesOver();
        fat();
        notLookedAt();
        types();
        fourEntries();
        notNamed();
        bitmapOctets();
        bits();
        tableOctets();
        tableSum();
        tableRuns();
        tableRight();
        following();
        typesOfSets();
        laidOver();
        attributes();
        streams();
        setInTwo();
        evenPlaces();
        sumOfSet();
        hashes();
        sizesOfNames();
        secondNames();
        thirdName();
        letters();
        lastLetters();
        lengths();
        withoutAny();
        directories();
        Due.end();
    }
}
