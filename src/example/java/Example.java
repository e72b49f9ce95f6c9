/** A short life of one volume: files are made, power fails, an OCTET is spoiled, and the volume is mended. */
public final class Example {
    public static void main(String[] args) {
        BitmapVolume volume = new BitmapVolume();
        tell("format(20, 1234)", volume.format(20, 1234));
        tell("mount()", volume.mount());
        volume.clock(1000);

        draft(volume, "Letters");
        int directory = volume.make(0, true);
        tell("make(0, true)", directory);
        draft(volume, "a first one.txt");
        int file = volume.make(directory, false);
        tell("make(18, false)", file);
        tell("write(20, 0, 300, 65)", volume.write(file, 0, 300, 65));
        tell("read(20, 298)", volume.read(file, 298));
        tell("cut(20, 100)", volume.cut(file, 100));

        draft(volume, "LETTERS");
        tell("look(0)", volume.look(0));
        draft(volume, "no:name");
        tell("look(0)", volume.look(0));
        draft(volume, "one.txt");
        file = volume.move(file, 0);
        tell("move(20, 0)", file);
        tell("list(0, 1)", volume.list(0, 1));
        tell("told(26, 1)", volume.told(file, 1));
        tell("count(1)", volume.count(1));

        tell("fail(8)", volume.fail(8));
        tell("write(26, 100, 200, 1)", volume.write(file, 100, 200, 1));
        tell("count(5)", volume.count(5));
        tell("mend()", volume.mend());
        tell("mount()", volume.mount());
        tell("told(26, 1)", volume.told(file, 1));
        tell("unmount()", volume.unmount());

        tell("spoil(16, 0, 0)", volume.spoil(16, 0, 0));
        tell("mount()", volume.mount());
        tell("fault(0)", volume.fault(0));
        tell("mend()", volume.mend());
        tell("mount()", volume.mount());
    }

    /** THE DRAFT takes up to four letters a call; one by one will do. */
    private static void draft(BitmapVolume volume, String name) {
        volume.clear();
        for (int i = 0; i < name.length(); i++) volume.letters(name.charAt(i));
    }

    private static void tell(String call, long answer) {
        System.out.println(call + " = " + answer);
    }
}
