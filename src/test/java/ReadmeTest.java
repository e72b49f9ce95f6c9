import java.io.IOException;
import java.lang.reflect.Field;
import java.lang.reflect.Method;
import java.lang.reflect.Modifier;
import java.nio.charset.StandardCharsets;
import java.nio.file.FileVisitResult;
import java.nio.file.Files;
import java.nio.file.Path;
import java.nio.file.SimpleFileVisitor;
import java.nio.file.attribute.BasicFileAttributes;
import java.util.ArrayList;
import java.util.List;
import java.util.TreeSet;
import java.util.regex.Matcher;
import java.util.regex.Pattern;
import java.util.stream.Stream;

/** README.md, followed word for word: its commands are given in a copy of the project that lies beside ../shared. */
public final class ReadmeTest {
    private static final String WHOLE_RUN = ".ci/run\n";

    /** A fenced piece of README.md: its kind, and its text. */
    private record Block(String kind, String text) {
    }

    private static List<Block> blocks(String readme) {
        List<Block> all = new ArrayList<>();
        Matcher m = Pattern.compile("(?ms)^```(\\w+)\n(.*?)^```$").matcher(readme);
        while (m.find()) all.add(new Block(m.group(1), m.group(2)));
        return all;
    }

    private static String read(Path path) throws IOException {
        return Files.readString(path, StandardCharsets.UTF_8);
    }

    /** Paths are told from here on, so the copy has them too. */
    private static void copy(Path from, Path to) throws IOException {
        try (Stream<Path> paths = Files.walk(from)) {
            for (Path p : (Iterable<Path>) paths::iterator) {
                Path target = to.resolve(p);
                if (Files.isDirectory(p)) Files.createDirectories(target);
                else Files.copy(p, target);
            }
        }
    }

    private static void remove(Path directory) throws IOException {
        Files.walkFileTree(directory, new SimpleFileVisitor<>() {
            @Override
            public FileVisitResult visitFile(Path file, BasicFileAttributes attributes) throws IOException {
                Files.delete(file);
                return FileVisitResult.CONTINUE;
            }

            @Override
            public FileVisitResult postVisitDirectory(Path directory, IOException e) throws IOException {
                Files.delete(directory);
                return FileVisitResult.CONTINUE;
            }
        });
    }

    /** What the commands print; that they end well is asked here. */
    private static String run(String commands, Path where) throws IOException, InterruptedException {
        ProcessBuilder shell = new ProcessBuilder("sh", "-e", "-c", commands);
        Process process = shell.directory(where.toFile()).redirectErrorStream(true).start();
        process.getOutputStream().close();
        String told = new String(process.getInputStream().readAllBytes(), StandardCharsets.UTF_8);
        int code = process.waitFor();
        Due.due("exit code of [" + commands + "]", code, 0);
        if (code != 0) System.out.println(told);
        return told;
    }

    private static void follow(List<Block> all, Path project) throws IOException, InterruptedException {
        for (int i = 0; i < all.size(); i++) {
            Block block = all.get(i);
            // The whole run is what runs this test.
            if (!block.kind.equals("sh") || block.text.equals(WHOLE_RUN)) continue;
            String told = run(block.text, project);
            boolean isShown = i + 1 < all.size() && all.get(i + 1).kind.equals("text");
            if (isShown) Due.due("[" + block.text + "]", told, all.get(i + 1).text);
        }
    }

    private static void commands(List<Block> all) throws IOException, InterruptedException {
        Path work = Files.createTempDirectory("readme");
        try {
            Path project = Files.createDirectory(work.resolve("main"));
            copy(Path.of("src"), project);
            Path shared = Path.of(System.getProperty("shared", "../shared")).toRealPath();
            Files.createSymbolicLink(work.resolve("shared"), shared);
            follow(all, project);
        } finally {
            remove(work);
        }
    }

    private static void example(List<Block> all) throws IOException {
        int found = 0;
        for (Block block : all) {
            if (!block.kind.equals("java")) continue;
            found++;
            Due.due("the program that is shown", block.text, read(Path.of("src/example/java/Example.java")));
        }
        Due.due("programs that are shown", found, 1);
    }

    private static void wholeRun(List<Block> all) {
        Due.due("how to run all tests is told", all.contains(new Block("sh", WHOLE_RUN)) ? 1 : 0, 1);
        Due.due(".ci/run can be run", Files.isExecutable(Path.of(".ci/run")) ? 1 : 0, 1);
    }

    /** Each test that there is, and no other, is named. */
    private static void names(String readme) throws IOException {
        TreeSet<String> named = new TreeSet<>();
        Matcher m = Pattern.compile("`(\\w+Test)`").matcher(readme);
        while (m.find()) named.add(m.group(1));
        TreeSet<String> there = new TreeSet<>();
        try (Stream<Path> tests = Files.list(Path.of("src/test/java"))) {
            tests.map(p -> p.getFileName().toString()).filter(n -> n.endsWith("Test.java"))
                .forEach(n -> there.add(n.substring(0, n.length() - ".java".length())));
        }
        Due.due("tests that are named", named.toString(), there.toString());
    }

    /** Each call of the face is named, and each constant. */
    private static void face(String readme) {
        for (Method m : BitmapVolume.class.getDeclaredMethods()) {
            boolean isTold = readme.contains("`" + m.getName() + "`") || readme.contains("`" + m.getName() + "(");
            if (Modifier.isPublic(m.getModifiers())) Due.due(m.getName() + " is named", isTold ? 1 : 0, 1);
        }
        for (Field f : BitmapVolume.class.getFields()) {
            Due.due(f.getName() + " is named", readme.contains("`" + f.getName() + "`") ? 1 : 0, 1);
        }
    }

    public static void main(String[] args) throws IOException, InterruptedException {
        String readme = read(Path.of("README.md"));
        List<Block> all = blocks(readme);
        example(all);
        wholeRun(all);
        names(readme);
        face(readme);
        commands(all);
        Due.end();
    }
}
