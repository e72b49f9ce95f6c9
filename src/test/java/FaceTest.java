import java.io.IOException;
import java.lang.reflect.Constructor;
import java.lang.reflect.Field;
import java.lang.reflect.Method;
import java.lang.reflect.Modifier;
import java.nio.charset.StandardCharsets;
import java.nio.file.Files;
import java.nio.file.Path;
import java.util.Arrays;
import java.util.Set;
import java.util.TreeSet;
import java.util.regex.Matcher;
import java.util.regex.Pattern;

/** The public face of the document, and those rules of LANGUAGE.md that can be seen in the class or its text. */
public final class FaceTest {
    private static final String[] METHODS = {
        "int bar(int, boolean)", "int clear()", "int cluster(int, int)", "int count(int)", "int cut(int, int)", "int drop(int)",
        "int fail(int)", "int fault(int)", "int format(int, int)", "int letter(int, int)", "int letters(long)", "int list(int, int)",
        "int look(int)", "int make(int, boolean)", "int mend()", "int mount()", "int move(int, int)", "int octet(int, int)",
        "int spoil(int, int, int)", "int told(int, int)", "int unmount()", "int write(int, int, int, int)", "long read(int, int)",
        "void clock(int)"};
    private static final Set<String> LIBRARY = Set.of("Arrays.fill", "System.arraycopy", "Math.max", "Math.min", "java.util");
    private static final String[] FIELDS = {"BAD", "BARRED", "FULL", "NAME", "NONE", "OFF", "STATE", "THERE"};

    private static String form(Method m) {
        StringBuilder b = new StringBuilder(m.getReturnType() + " " + m.getName() + "(");
        for (Class<?> c : m.getParameterTypes()) b.append(b.charAt(b.length() - 1) == '(' ? "" : ", ").append(c);
        return b + ")";
    }

    private static void face() {
        Class<?> c = BitmapVolume.class;
        Due.due("public and final", c.getModifiers() & 0xFFF, Modifier.PUBLIC | Modifier.FINAL);
        TreeSet<String> methods = new TreeSet<>();
        for (Method m : c.getDeclaredMethods()) {
            if (Modifier.isPublic(m.getModifiers())) methods.add(form(m));
            else Due.due(m + " is private", Modifier.isPrivate(m.getModifiers()) ? 1 : 0, 1);
        }
        Due.due("methods", methods.toString(), Arrays.toString(METHODS));
        TreeSet<String> fields = new TreeSet<>();
        for (Field f : c.getDeclaredFields()) {
            if (Modifier.isPublic(f.getModifiers())) fields.add(f.getName());
            else Due.due(f + " is private", Modifier.isPrivate(f.getModifiers()) ? 1 : 0, 1);
        }
        Due.due("constants", fields.toString(), Arrays.toString(FIELDS));
        Constructor<?>[] all = c.getDeclaredConstructors();
        Due.due("constructors", all.length * 10 + all[0].getParameterCount(), 10);
    }

    private static void nested() {
        Class<?>[] all = BitmapVolume.class.getDeclaredClasses();
        Due.due("at most twelve classes", all.length <= 11 ? 1 : 0, 1);
        TreeSet<String> names = new TreeSet<>();
        for (Method m : BitmapVolume.class.getMethods()) names.add(m.getName());
        for (Class<?> c : all) {
            Due.due(c + " is static", Modifier.isStatic(c.getModifiers()) ? 1 : 0, 1);
            int fields = 0;
            for (Field f : c.getDeclaredFields()) {
                if (!Modifier.isStatic(f.getModifiers())) fields++;
                else Due.due(f + " is final", Modifier.isFinal(f.getModifiers()) ? 1 : 0, 1);
            }
            Due.due(c + " has at most twenty fields", fields <= 20 ? 1 : 0, 1);
            for (Method m : c.getDeclaredMethods()) {
                Due.due(m + " has a name of its own", names.contains(m.getName()) ? 1 : 0, 0);
                Due.due(m + " has at most seven parameters", m.getParameterCount() <= 7 ? 1 : 0, 1);
            }
        }
    }

    private static void text() throws IOException {
        String s = Files.readString(Path.of("src/main/java/BitmapVolume.java"), StandardCharsets.UTF_8);
        s = s.replaceAll("(?s)/\\*.*?\\*/", " ").replaceAll("//[^\n]*", " ");
        String[] none = {"\\bthrow\\b", "\\btry\\b", "\\bcatch\\b", "\\bsynchronized\\b", "\\bassert\\b", "->", "::", "\\bprotected\\b",
            "\\bthrows\\b", "\\bpackage\\b", "static\\s*\\{", "\\w+Exact\\b"};
        for (String n : none) Due.due("[" + n + "] stands in the class", Pattern.compile(n).matcher(s).find() ? 1 : 0, 0);
        Matcher imports = Pattern.compile("import ([^;]+);").matcher(s);
        while (imports.find()) Due.due("import " + imports.group(1), imports.group(1).equals("java.util.Arrays") ? 1 : 0, 1);
        library(s);
        lengths(s);
    }

    /** The class has no texts and makes nothing but its own objects and rows, so little of the library is left. */
    private static void library(String s) {
        Matcher calls = Pattern.compile("\\b(java|Math|Arrays|System|Integer|Long|Character|String|StringBuilder)\\.(\\w+)").matcher(s);
        while (calls.find()) {
            String name = calls.group();
            Due.due(name + " may stand in the class", LIBRARY.contains(name) ? 1 : 0, 1);
        }
        TreeSet<String> own = new TreeSet<>(Set.of("int[", "boolean[", "BitmapVolume("));
        for (Class<?> c : BitmapVolume.class.getDeclaredClasses()) own.add(c.getSimpleName() + "(");
        Matcher made = Pattern.compile("\\bnew (\\w+[(\\[])").matcher(s);
        while (made.find()) Due.due("new " + made.group(1) + " may stand in the class", own.contains(made.group(1)) ? 1 : 0, 1);
    }

    private static void lengths(String s) {
        Matcher methods = Pattern.compile("(?m)^( +)(?:\\w[^;=\\n]*) (\\w+)\\([^;{]*\\) \\{\\n((?:.*\\n)*?)\\1\\}$").matcher(s);
        int found = 0;
        while (methods.find()) {
            found++;
            int lines = methods.group(3).split("\n").length;
            Due.due(methods.group(2) + " has at most sixty lines, not " + lines, lines <= 60 ? 1 : 0, 1);
        }
        Due.due("methods were found", found > 100 ? 1 : 0, 1);
    }

    public static void main(String[] args) throws IOException {
        face();
        nested();
        text();
        Due.end();
    }
}
