import java.io.File;
import java.io.IOException;
import java.lang.reflect.Method;
import java.net.URL;
import java.net.URLClassLoader;
import java.nio.file.Files;
import java.nio.file.Path;
import java.util.ArrayList;
import java.util.List;
import java.util.function.BiConsumer;
import java.util.regex.Matcher;
import java.util.regex.Pattern;
import javax.tools.JavaCompiler;
import javax.tools.ToolProvider;

/** README.md tells of each call and of each test, and its examples answer what it says. */
public final class ReadmeTest {
    private static final Checks checks = new Checks();
    private static final Path FOLDER = Path.of("build/readme");
    /** A line of an example that tells what its call answers. */
    private static final Pattern TOLD = Pattern.compile("int (\\w+) = (.*);\\s*// (-?\\d+): .*");
    private static final Pattern CALL = Pattern.compile("public int (\\w+)\\((.*)\\);");

    public static void main(String[] args) throws Exception {
        List<String> page = Files.readAllLines(Path.of("README.md"));
        namesEachCall(page);
        namesEachTest(page);
        runExamples(examples(page));
        checks.end();
    }

    private static boolean hasRow(List<String> page, String begin) {
        for (String line : page) {
            if (line.startsWith(begin)) return true;
        }
        return false;
    }

    private static void namesEachCall(List<String> page) throws IOException {
        checks.holds("a row for WordMender()", hasRow(page, "| `WordMender()` | 1 |"));
        int promise = 1;
        for (String line : Files.readAllLines(Path.of("../shared/DOC.md"))) {
            Matcher m = CALL.matcher(line.strip());
            if (m.matches()) {
                promise++;
                String call = m.group(1) + "(" + m.group(2).replaceAll("(int|long) ", "") + ")";
                checks.holds("a row for " + call, hasRow(page, "| `" + call + "` | " + promise + " |"));
            }
        }
        checks.due("the last call's promise", promise, 25);
    }

    private static void namesEachTest(List<String> page) {
        for (String file : new File("src/test/java").list()) {
            if (file.endsWith("Test.java")) {
                String test = file.substring(0, file.length() - ".java".length());
                checks.holds("a row for " + test, hasRow(page, "| `" + test + "` |"));
            }
        }
    }

    private static List<List<String>> examples(List<String> page) {
        List<List<String>> all = new ArrayList<>();
        boolean within = false;
        for (String line : page) {
            if (line.startsWith("```")) {
                within = line.equals("```java");
                if (within) all.add(new ArrayList<>());
            } else if (within) {
                all.get(all.size() - 1).add(line);
            }
        }
        return all;
    }

    /** The first example is a method that the others use; each of these is run by itself. */
    private static void runExamples(List<List<String>> examples) throws Exception {
        checks.due("examples", examples.size(), 5);
        StringBuilder code = new StringBuilder("public final class ReadmeExamples {\n");
        code.append(String.join("\n", examples.get(0))).append('\n');
        for (int k = 1; k < examples.size(); k++) {
            code.append("public static void example").append(k)
                    .append("(java.util.function.BiConsumer<String, int[]> due) {\n");
            for (String line : examples.get(k)) code.append(line).append('\n').append(asked(line));
            code.append("}\n");
        }
        Path source = Files.createDirectories(FOLDER).resolve("ReadmeExamples.java");
        Files.writeString(source, code.append("}\n"));
        JavaCompiler compiler = ToolProvider.getSystemJavaCompiler();
        int failed = compiler.run(null, null, null, "-cp", System.getProperty("java.class.path"),
                "-d", FOLDER.toString(), source.toString());
        checks.due("compiling the examples", failed, 0);
        if (failed == 0) call(examples.size() - 1);
    }

    private static String asked(String line) {
        Matcher m = TOLD.matcher(line);
        checks.holds("it is told what is answered: " + line, m.matches() || !line.startsWith("int "));
        if (!m.matches()) return "";
        return "due.accept(\"" + m.group(2) + "\", new int[] {" + m.group(1) + ", " + m.group(3) + "});\n";
    }

    private static void call(int examples) throws Exception {
        BiConsumer<String, int[]> due = (call, both) -> checks.due("README: " + call, both[0], both[1]);
        try (URLClassLoader loader = new URLClassLoader(new URL[] {FOLDER.toUri().toURL()})) {
            Class<?> made = loader.loadClass("ReadmeExamples");
            for (int k = 1; k <= examples; k++) {
                Method m = made.getMethod("example" + k, BiConsumer.class);
                m.invoke(null, due);
            }
        }
    }
}
