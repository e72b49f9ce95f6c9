import java.io.IOException;
import java.nio.charset.StandardCharsets;
import java.nio.file.Files;
import java.nio.file.Path;
import java.util.Arrays;

/**
 * What the tests of boundary cases share: every answer is due by a sentence of the document, which is named with
 * the part in which it stands; an answer that is not as due is told with both.
 */
final class Edge {
    static final int BAD = BitmapVolume.BAD, STATE = BitmapVolume.STATE, NAME = BitmapVolume.NAME, THERE = BitmapVolume.THERE;
    static final int BARRED = BitmapVolume.BARRED, FULL = BitmapVolume.FULL, OFF = BitmapVolume.OFF, NONE = BitmapVolume.NONE;
    static final long END = 4294967295L;
    /** What no number of the document reaches. */
    static final int LEAST = Integer.MIN_VALUE, MOST = Integer.MAX_VALUE;

    private static final String DOCUMENT = document();
    private static String sentence = "";

    private Edge() {
    }

    private static String document() {
        Path path = Path.of(System.getProperty("shared", "../shared"), "DOC.md");
        try {
            return Files.exists(path) ? Files.readString(path, StandardCharsets.UTF_8) : "";
        } catch (IOException e) {
            return "";
        }
    }

    /**
     * The answers that follow are due by these words of a part: "Terms", "2 MOUNTING" and its like, or a promise
     * with its name ("15 make"). Words that do not stand there are an answer that is not as due.
     */
    static void by(String part, String words) {
        sentence = part + " [" + words + "]";
        if (!DOCUMENT.isEmpty()) Due.due(sentence + " stands in the document", section(part).contains(words) ? 1 : 0, 1);
    }

    private static String section(String part) {
        String head = "## Promise " + part.replaceFirst(" ", ": ");
        if (part.equals("Terms")) head = "## Terms";
        else if (part.matches("[1-4] [A-Z ]+")) head = "======== " + part;
        int from = DOCUMENT.indexOf(head);
        if (from < 0) return "";
        String rest = DOCUMENT.substring(from + head.length());
        return rest.split("\n## |======== ")[0].replaceAll("\\s+", " ");
    }

    static void due(String what, long got, long want) {
        Due.due(sentence + " " + what, got, want);
    }

    static void due(String what, String got, String want) {
        Due.due(sentence + " " + what, got, want);
    }

    static void dueOrder(String what, Due.Setup setup, Due.Act act, String sectors) {
        due(what, Due.order(sentence + " " + what, setup, act), sectors);
    }

    /** A mount() that meets a FAULT, with its place. */
    static void dueFault(String what, BitmapVolume x, int number, int cluster, int entry) {
        due(what + ": mount()", x.mount(), -10 - number);
        due(what + ": count(5)", x.count(5), 0);
        due(what + ": fault(0)", x.fault(0), number);
        due(what + ": fault(1)", x.fault(1), cluster);
        due(what + ": fault(2)", x.fault(2), entry);
    }

    /** What mend() answers, and that the volume is RIGHT then. */
    static void dueMend(String what, BitmapVolume x, int mended) {
        due(what + ": mend()", x.mend(), mended);
        due(what + ": mend() again", x.mend(), 0);
        due(what + ": mount()", x.mount(), 1);
    }

    /** The volume stays RIGHT. */
    static void dueRight(String what, BitmapVolume x) {
        due(what + ": unmount()", x.unmount(), 1);
        due(what + ": mount()", x.mount(), 1);
    }

    private static String state(BitmapVolume x) {
        int[] s = {x.count(3), x.count(4), x.count(5), x.fault(0), x.fault(1), x.fault(2)};
        return Arrays.toString(s);
    }

    /** A refused call: its answer, and that it changes nothing: neither the disk, nor what is told, nor THE DRAFT. */
    static void refused(String what, Due.Setup setup, Due.Act act, long answer) {
        BitmapVolume x = setup.make();
        String before = state(x);
        int draft = x.letters(0);
        due(what, act.on(x), answer);
        due(what + " changes nothing", state(x), before);
        due(what + " leaves THE DRAFT", x.letters(0), draft);
        dueSame(what, setup, act);
    }

    /** Likewise of a call that takes THE DRAFT: it is empty then. */
    static void refusedWith(String draft, String what, Due.Setup setup, Due.Act act, long answer) {
        Due.Setup said = () -> Due.say(setup.make(), draft);
        BitmapVolume x = said.make();
        String before = state(x);
        due(what, act.on(x), answer);
        due(what + " changes nothing", state(x), before);
        due(what + ": THE DRAFT is empty", x.clear(), 0);
        dueSame(what, said, act);
    }

    private static void dueSame(String what, Due.Setup setup, Due.Act act) {
        due(what + " changes no SECTOR", Due.changed(Due.disk(setup, x -> 0), Due.disk(setup, act)), "");
    }

    static BitmapVolume again(BitmapVolume x) {
        x.unmount();
        x.mount();
        return x;
    }

    /** Due.base(), mounted: ten CLUSTERS (12 to 21) are free, and it is not DIRTY. */
    static BitmapVolume some() {
        BitmapVolume x = Due.base();
        x.mount();
        return x;
    }

    /** Likewise, but no CLUSTER is free: a has them all, and all OCTETS of them. */
    static BitmapVolume full() {
        BitmapVolume x = some();
        x.write(18, 200, 1024, 0);
        x.write(18, 1224, 312, 0);
        return again(x);
    }

    /** Edge.some(), but a went, and c (40) is a chain 12, 6, the OCTETS of each from 1 on. */
    static BitmapVolume downward() {
        BitmapVolume x = some();
        x.write(40, 0, 128, 1);
        x.write(22, 100, 100, 1);
        x.drop(18);
        x.write(40, 128, 128, 1);
        return x;
    }

    /** Edge.some(), but the BITMAP is CLUSTER 21: free are 2, and 12 to 20. */
    static BitmapVolume bitmapLast() {
        BitmapVolume x = Due.base();
        x.spoil(20, 20, 21);
        Due.setFat(x, 21, END);
        Due.put(x, Due.address(84), 3, 0x0803FE);
        x.mount();
        return x;
    }

    static BitmapVolume barred(BitmapVolume x, int place) {
        x.bar(place, true);
        return again(x);
    }

    static BitmapVolume off(BitmapVolume x) {
        x.unmount();
        return x;
    }

    static BitmapVolume fails(BitmapVolume x, int m) {
        x.fail(m);
        return x;
    }

    /** Makes THE SUM of the first BOOT REGION right again. */
    static void resum(BitmapVolume x) {
        long sum = 0;
        for (int i = 0; i < 192; i++) if (i != 44 && i != 45 && i != 49) sum = Due.roll32(sum, Due.at(x, i));
        for (int i = 0; i < 64; i += 4) Due.put(x, 192 + i, 4, sum);
    }

    /** A new volume whose ROOT is another CLUSTER; the BITMAP gives way to it. THE SECOND region is as it was. */
    static BitmapVolume rooted(int n, int root, int serial) {
        BitmapVolume x = new BitmapVolume();
        x.format(n, serial);
        int bitmap = root == 2 ? 4 : 2;
        int from = Due.address(16), to = Due.address(4 * root);
        for (int i = 0; i < 64; i++) if (Due.at(x, from + i) != 0 || root == 2) Due.put(x, to + i, 1, Due.at(x, from + i));
        Due.put(x, to + 20, 4, bitmap);
        for (int i = 0; i < (n + 7) / 8; i++) Due.put(x, Due.address(4 * bitmap) + i, 1, 0);
        for (int c : new int[] {bitmap, 3, root}) taken(x, bitmap, c);
        if (root != 2) Due.setFat(x, 4, 0);
        Due.setFat(x, root, END);
        Due.put(x, 36, 4, root);
        resum(x);
        return x;
    }

    private static void taken(BitmapVolume x, int bitmap, int c) {
        int a = Due.address(4 * bitmap) + (c - 2) / 8;
        Due.put(x, a, 1, Due.at(x, a) | 1 << (c - 2) % 8);
    }

    /** LENGTH, both times, of a SET by its head SECTOR; its SUM is not made right. */
    static void putLength(BitmapVolume x, int head, long length) {
        Due.put(x, head * 64 + 40, 8, length);
        Due.put(x, head * 64 + 56, 8, length);
    }
}
