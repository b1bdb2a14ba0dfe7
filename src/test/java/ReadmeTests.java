import java.io.ByteArrayOutputStream;
import java.io.IOException;
import java.io.PrintStream;
import java.net.URL;
import java.net.URLClassLoader;
import java.nio.charset.StandardCharsets;
import java.nio.file.Files;
import java.nio.file.Path;
import java.util.ArrayList;
import java.util.List;
import java.util.Set;
import java.util.TreeSet;
import java.util.regex.Matcher;
import java.util.regex.Pattern;
import java.util.stream.Stream;
import javax.tools.JavaCompiler;
import javax.tools.ToolProvider;

/** README.md tells what is so: its example prints what it says, its table has all calls, its list all tests. */
public final class ReadmeTests {
    private static final Path README = Path.of("README.md");
    private static final Path TESTS = Path.of("src/test/java");

    private ReadmeTests() {
    }

    public static void main(String[] args) throws Exception {
        String readme = Files.readString(README);
        Checks.label("README.md, the example: ");
        examplePrintsWhatItSays(readme);
        Checks.label("README.md, the calls: ");
        tableHasTheCallsOfTheDocument(readme);
        Checks.label("README.md, the tests: ");
        listHasAllTests(readme);
        Checks.end();
    }

    private static void examplePrintsWhatItSays(String readme) throws Exception {
        Matcher block = Pattern.compile("(?s)```java\n(.*?)```").matcher(readme);
        boolean found = block.find();
        Checks.same("there is one", found, true);
        if (found) {
            String example = block.group(1);
            Checks.same("lines that print, some at least", promised(example).size() > 10, true);
            Checks.same("printed", printedBy(example).toString(), promised(example).toString());
        }
    }

    /** What stands behind the lines that print. */
    private static List<String> promised(String example) {
        List<String> due = new ArrayList<>();
        for (String line : example.lines().toList()) {
            if (line.contains("println")) {
                due.add(line.contains("; ") ? line.replaceAll(".*;\\s+// ", "") : "nothing told");
            }
        }
        return due;
    }

    private static List<String> printedBy(String example) throws Exception {
        Path room = Files.createTempDirectory("example");
        try {
            return compiled(example, room) ? runIn(room) : List.of("not compiled");
        } finally {
            empty(room);
        }
    }

    private static boolean compiled(String example, Path room) throws IOException {
        Path file = Files.writeString(room.resolve("Example.java"), example);
        JavaCompiler compiler = ToolProvider.getSystemJavaCompiler();
        String known = System.getProperty("java.class.path");
        return compiler.run(null, null, null, "-cp", known, "-d", room.toString(), file.toString()) == 0;
    }

    private static List<String> runIn(Path room) throws Exception {
        PrintStream before = System.out;
        ByteArrayOutputStream printed = new ByteArrayOutputStream();
        try (URLClassLoader loader = new URLClassLoader(new URL[] {room.toUri().toURL()})) {
            System.setOut(new PrintStream(printed, true, StandardCharsets.UTF_8));
            loader.loadClass("Example").getMethod("main", String[].class).invoke(null, (Object) new String[0]);
        } finally {
            System.setOut(before);
        }
        return printed.toString(StandardCharsets.UTF_8).lines().toList();
    }

    private static void empty(Path room) throws IOException {
        try (Stream<Path> files = Files.list(room)) {
            for (Path file : files.toList()) {
                Files.delete(file);
            }
        }
        Files.delete(room);
    }

    private static void tableHasTheCallsOfTheDocument(String readme) throws IOException {
        String document = Files.readString(Document.FILE);
        String untyped = document.replaceAll("(?<=[(,])( ?)int ", "$1");
        List<String> due = found("(?m)^    public \\w+ (\\w+\\(.*?\\)).*;$", untyped);
        List<String> got = found("(?m)^\\| `(.*?)` \\| .+ \\|$", readme);
        Checks.same("calls of the document", due.size(), 42);
        Checks.same("the table, in the document's order", got.toString(), due.toString());
    }

    private static List<String> found(String pattern, String text) {
        return Pattern.compile(pattern).matcher(text).results().map(each -> each.group(1)).toList();
    }

    private static void listHasAllTests(String readme) throws IOException {
        try (Stream<Path> files = Files.list(TESTS)) {
            Set<String> due = new TreeSet<>();
            files.map(Path::toString).filter(each -> each.endsWith("Tests.java")).forEach(due::add);
            Set<String> got = new TreeSet<>(found("(?m)^- `(src/test/java/\\w+\\.java)`: ", readme));
            Checks.same("test classes", got.toString(), due.toString());
        }
    }
}
