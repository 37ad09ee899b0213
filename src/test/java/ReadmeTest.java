import java.io.IOException;
import java.net.URL;
import java.net.URLClassLoader;
import java.nio.file.Files;
import java.nio.file.Path;
import java.util.ArrayList;
import java.util.List;
import java.util.regex.Matcher;
import java.util.regex.Pattern;
import java.util.stream.Stream;
import javax.tools.ToolProvider;

/** The examples of README.md are compiled and called: each answer behind a call must be the one it gives. */
public final class ReadmeTest {
    private static final Path PAGE = Path.of("README.md"), TESTS = Path.of("src/test/java");
    private static final String NAME = "ReadmeExamples";
    private static final int EXAMPLES = 3;

    private static final Pattern EXAMPLE = Pattern.compile("(?s)```java\n(.*?)```");
    private static final Pattern ANSWERED =
        Pattern.compile("(int \\w+ = )?(x\\.\\w+\\(.*\\)); +// (-?\\d+)(: .*)?");

    private ReadmeTest() {
    }

    /** The one line without an answer makes the object. */
    private static String checked(String line) {
        Matcher call = ANSWERED.matcher(line);
        if (!call.matches()) {
            Check.due("README.md: a call without its answer: " + line, line.contains("new DuskShelves()") ? 1 : 0, 1);
            return line;
        }
        String said = "\"README.md: " + call.group(2) + "\"";
        if (call.group(1) == null) {
            return "Check.due(" + said + ", " + call.group(2) + ", " + call.group(3) + ");";
        }
        String name = call.group(1).replaceAll("int | = ", "");
        return call.group(1) + call.group(2) + ";\nCheck.due(" + said + ", " + name + ", " + call.group(3) + ");";
    }

    private static String program(String page) {
        List<String> lines = new ArrayList<>();
        lines.add("public final class " + NAME + " implements Runnable { public void run() {");
        int examples = 0;
        Matcher example = EXAMPLE.matcher(page);
        while (example.find()) {
            examples++;
            lines.add("{");
            example.group(1).lines().forEach(line -> lines.add(checked(line)));
            lines.add("}");
        }
        lines.add("} }");
        Check.due("README.md: examples", examples, EXAMPLES);
        return String.join("\n", lines);
    }

    private static void compileAndRun(String program, Path into) throws IOException, ReflectiveOperationException {
        Path source = into.resolve(NAME + ".java");
        Files.writeString(source, program);
        String path = System.getProperty("java.class.path");
        int failed = ToolProvider.getSystemJavaCompiler().run(null, System.out, System.out,
            "-encoding", "UTF-8", "-cp", path, "-d", into.toString(), source.toString());
        Check.due("README.md: javac of the examples", failed, 0);
        if (failed == 0) {
            try (URLClassLoader loader = new URLClassLoader(new URL[] {into.toUri().toURL()})) {
                ((Runnable) loader.loadClass(NAME).getDeclaredConstructor().newInstance()).run();
            }
        }
    }

    private static void removeAll(Path folder) throws IOException {
        try (Stream<Path> files = Files.list(folder)) {
            for (Path file : files.toList()) {
                Files.delete(file);
            }
        }
        Files.delete(folder);
    }

    private static void allTestsAreNamed(String page) throws IOException {
        try (Stream<Path> files = Files.list(TESTS)) {
            for (Path file : files.filter(f -> f.toString().endsWith("Test.java")).toList()) {
                String test = file.getFileName().toString().replace(".java", "");
                Check.due("README.md names " + test, page.contains("`" + test + "`") ? 1 : 0, 1);
            }
        }
    }

    public static void main(String[] args) throws IOException, ReflectiveOperationException {
        String page = Files.readString(args.length > 0 ? Path.of(args[0]) : PAGE);
        allTestsAreNamed(page);
        Path folder = Files.createTempDirectory(NAME);
        try {
            compileAndRun(program(page), folder);
        } finally {
            removeAll(folder);
        }
        Check.end("ReadmeTest");
    }
}
