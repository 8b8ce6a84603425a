import java.io.IOException;
import java.net.URL;
import java.net.URLClassLoader;
import java.nio.file.Files;
import java.nio.file.Path;
import java.util.ArrayList;
import java.util.List;
import java.util.Set;
import java.util.TreeSet;
import java.util.regex.Matcher;
import java.util.regex.Pattern;
import java.util.stream.Stream;
import javax.tools.ToolProvider;

/** The examples of README.md are compiled and run: each call answers what stands behind it. */
public final class ReadmeTest {
    private static final Path TESTS = Path.of("src/test/java");
    private static final Pattern ANSWERED = Pattern.compile("(.*);\\s+// (-?\\d+|true|false|throws \\w+)(:.*)?");

    private final Check check = new Check();
    private final String readme;
    private final StringBuilder methods = new StringBuilder();
    private final StringBuilder body = new StringBuilder();
    private final List<String> asked = new ArrayList<>();
    private final List<String> wanted = new ArrayList<>();

    private ReadmeTest(String readme) { this.readme = readme; }

    public static void main(String[] args) throws Exception {
        ReadmeTest test = new ReadmeTest(Files.readString(Path.of("README.md")));
        test.gather();
        test.answers();
        test.names();
        test.check.finish("readme");
    }

    // ---- the examples

    private void gather() {
        Matcher block = Pattern.compile("```(java|text)\n(.*?)```", Pattern.DOTALL).matcher(readme);
        while (block.find()) {
            if (block.group(1).equals("text")) ask("what was written", "written(grid)", block.group(2));
            else if (block.group(2).startsWith("static ")) methods.append(block.group(2));
            else for (String line : block.group(2).split("\n")) example(line);
        }
    }

    private void example(String line) {
        Matcher answered = ANSWERED.matcher(line);
        if (answered.matches()) {
            if (answered.group(2).startsWith("throws ")) askThrown(answered.group(1), answered.group(2));
            else ask(answered.group(1), answered.group(1), answered.group(2));
            return;
        }
        // A call alone must tell its answer; turn has none.
        boolean plain = !line.contains("//") && (line.contains(" = ") || line.contains(".turn("));
        check.due("an answer stands behind '" + line + "'", plain, true);
        if (plain) body.append(line).append('\n');
    }

    private void ask(String what, String code, String want) {
        asked.add(what);
        wanted.add(want);
        body.append("try { answers.add(String.valueOf(").append(code).append(")); } ").append(thrown());
    }

    private void askThrown(String code, String want) {
        asked.add(code);
        wanted.add(want);
        body.append("try { ").append(code).append("; answers.add(\"nothing\"); } ").append(thrown());
    }

    private static String thrown() {
        return "catch (RuntimeException e) { answers.add(\"throws \" + e.getClass().getSimpleName()); }\n";
    }

    private String source() {
        return "public final class ReadmeExamples {\n" + methods
                + "static String written(WaterGrid grid) { StringBuilder all = new StringBuilder();\n"
                + "for (int k = 0; grid.octet(k) >= 0; k++) all.append((char) grid.octet(k));\n"
                + "return all.toString(); }\n"
                + "public static java.util.List<String> run() { java.util.List<String> answers = new java.util.ArrayList<>();\n"
                + body + "return answers; } }\n";
    }

    private void answers() throws Exception {
        Path dir = Files.createTempDirectory("readme");
        try {
            List<?> got = compiled(dir);
            check.due("so many answers", got.size(), wanted.size());
            for (int i = 0; i < got.size() && i < wanted.size(); i++) check.due("README.md: " + asked.get(i), got.get(i), wanted.get(i));
        } finally {
            try (Stream<Path> files = Files.list(dir)) {
                for (Path file : files.toList()) Files.delete(file);
            }
            Files.delete(dir);
        }
    }

    private List<?> compiled(Path dir) throws Exception {
        Path file = Files.writeString(dir.resolve("ReadmeExamples.java"), source());
        int failed = ToolProvider.getSystemJavaCompiler().run(null, null, null,
                "-cp", System.getProperty("java.class.path"), "-d", dir.toString(), file.toString());
        check.due("the examples do not compile", failed, 0);
        if (failed != 0) return List.of();
        try (URLClassLoader loader = new URLClassLoader(new URL[] {dir.toUri().toURL()})) {
            return (List<?>) loader.loadClass("ReadmeExamples").getMethod("run").invoke(null);
        }
    }

    // ---- what it names

    private void names() throws IOException {
        for (var method : WaterGrid.class.getDeclaredMethods()) {
            if (!java.lang.reflect.Modifier.isPublic(method.getModifiers())) continue;
            check.due("an example of " + method.getName(), body.toString().contains("grid." + method.getName() + "("), true);
        }
        Set<String> tests = new TreeSet<>();
        try (Stream<Path> files = Files.list(TESTS)) {
            for (Path file : files.toList()) tests.add(file.getFileName().toString().replace(".java", ""));
        }
        tests.removeIf(name -> !name.endsWith("Test"));
        check.due("the tests that it lists", found("(?m)^- `(\\w+)`"), tests);
        for (String name : found("java -cp out (\\w+)")) check.due("a test " + name, tests.contains(name), true);
        for (String name : found("`((?:src|\\.ci|\\.\\./shared)[\\w./]*)`")) check.due("a file " + name, Files.exists(Path.of(name)), true);
    }

    private Set<String> found(String pattern) {
        Set<String> all = new TreeSet<>();
        Matcher matcher = Pattern.compile(pattern).matcher(readme);
        while (matcher.find()) all.add(matcher.group(1));
        return all;
    }
}
