import java.io.IOException;
import java.lang.reflect.Method;
import java.lang.reflect.Modifier;
import java.nio.file.Files;
import java.nio.file.Path;
import java.util.ArrayList;
import java.util.Comparator;
import java.util.List;
import java.util.regex.Matcher;
import java.util.regex.Pattern;
import java.util.stream.Stream;

/** What README.md shows is so, and what it says to run runs as it is written there. */
public final class ReadmeTest {
    private static final Path EXAMPLE = Path.of("src/example/java/Example.java");
    /** It runs this test, so this test cannot run it. */
    private static final String ALL_TESTS = ".ci/run";

    private static int wrong = 0;

    public static void main(String[] args) throws Exception {
        Watch.begin();
        String page = Files.readString(Path.of("README.md"));
        due("the example", List.of(Files.readString(EXAMPLE)), blocks(page, "java"));
        calls(page);
        commands(page);
        System.out.println(wrong == 0 ? "README.md is as due" : wrong + " things of README.md are not as due");
        System.exit(wrong == 0 ? 0 : 1);
    }

    private static void due(String what, Object want, Object got) {
        if (!want.equals(got)) {
            wrong++;
            System.out.println(what + " is " + got + ", due is " + want);
        }
    }

    private static List<String> blocks(String page, String kind) {
        List<String> all = new ArrayList<>();
        Matcher block = Pattern.compile("(?ms)^```" + kind + "\n(.*?)^```$").matcher(page);
        while (block.find()) {
            all.add(block.group(1));
        }
        return all;
    }

    /** Each call has one row of its own in a table, with all its numbers, and there is no other. */
    private static void calls(String page) {
        List<String> want = new ArrayList<>();
        for (Method m : BreathSold.class.getDeclaredMethods()) {
            if (Modifier.isPublic(m.getModifiers())) {
                want.add(m.getName() + " of " + m.getParameterCount());
            }
        }
        List<String> got = new ArrayList<>();
        Matcher row = Pattern.compile("(?m)^\\| `(\\w+)\\(([^)]*)\\)` \\| .* \\|$").matcher(page);
        while (row.find()) {
            String numbers = row.group(2);
            got.add(row.group(1) + " of " + (numbers.isEmpty() ? 0 : numbers.split(", ").length));
        }
        want.sort(Comparator.naturalOrder());
        got.sort(Comparator.naturalOrder());
        due("the list of calls", want, got);
    }

    /** In a copy, so that nothing that lies about helps them, and nothing is left behind. */
    private static void commands(String page) throws Exception {
        Path room = Files.createTempDirectory("readme");
        Path root = Files.createDirectory(room.resolve("main"));
        copyAll(Path.of("src"), root);
        copyAll(Path.of(ALL_TESTS), root);
        Files.createSymbolicLink(room.resolve("shared"), Path.of("../shared").toRealPath());
        due("all tests can be run", true, Files.isExecutable(root.resolve(ALL_TESTS)));
        StringBuilder shown = new StringBuilder();
        int ran = 0;
        for (String block : blocks(page, "sh")) {
            for (String command : block.split("\n")) {
                if (command.equals(ALL_TESTS)) {
                    continue;
                }
                String printed = run(command, root);
                ran++;
                if (command.endsWith(" Example")) {
                    shown.append(printed);
                }
            }
        }
        due("there are commands", true, ran > 0);
        due("what the example prints", List.of(shown.toString()), blocks(page, "text"));
        removeAll(room);
    }

    private static String run(String command, Path root) throws Exception {
        Path printed = Files.createTempFile("printed", ".txt");
        Process p = new ProcessBuilder("sh", "-c", command).directory(root.toFile())
            .redirectOutput(printed.toFile()).redirectError(ProcessBuilder.Redirect.INHERIT).start();
        int exit = p.waitFor();
        String text = Files.readString(printed);
        Files.delete(printed);
        due("exit of " + command + "\n" + text, 0, exit);
        return text;
    }

    private static void copyAll(Path from, Path root) throws IOException {
        try (Stream<Path> all = Files.walk(from)) {
            for (Path p : (Iterable<Path>) all::iterator) {
                Path to = root.resolve(p.toString());
                Files.createDirectories(to.getParent());
                Files.copy(p, to, java.nio.file.StandardCopyOption.COPY_ATTRIBUTES);
            }
        }
    }

    /** Children first; the link to ../shared is taken away, not followed. */
    private static void removeAll(Path room) throws IOException {
        try (Stream<Path> all = Files.walk(room)) {
            for (Path p : (Iterable<Path>) all.sorted(Comparator.reverseOrder())::iterator) {
                Files.delete(p);
            }
        }
    }
}
