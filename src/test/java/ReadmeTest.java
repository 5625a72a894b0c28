import java.io.ByteArrayOutputStream;
import java.io.File;
import java.io.IOException;
import java.io.PrintStream;
import java.lang.reflect.Method;
import java.lang.reflect.Modifier;
import java.net.URL;
import java.net.URLClassLoader;
import java.nio.charset.StandardCharsets;
import java.nio.file.Files;
import java.nio.file.Path;
import java.util.ArrayList;
import java.util.List;
import java.util.Set;
import java.util.TreeSet;
import java.util.spi.ToolProvider;

/** README.md: its example prints what stands beside it, its tables name every call and test. */
public final class ReadmeTest {
    private static final Check CHECK = new Check();
    private static final String DUE = "// prints ";

    public static void main(String[] args) throws IOException, ReflectiveOperationException {
        String readme = Files.readString(Path.of("README.md"));
        example(blockOf(readme, "java"));
        everyCall(readme);
        everyTest(readme);
        CHECK.end();
    }

    /** The text of the first block of a language. */
    private static String blockOf(String readme, String language) {
        String mark = "```" + language + "\n";
        int begin = readme.indexOf(mark) + mark.length();
        return readme.substring(begin, readme.indexOf("```", begin));
    }

    private static void example(String text) throws IOException, ReflectiveOperationException {
        List<String> due = new ArrayList<>();
        for (String line : text.split("\n")) {
            int at = line.indexOf(DUE);
            CHECK.due("[" + line.trim() + "] prints what stands there",
                    line.contains("System.out"), at >= 0);
            if (at >= 0) {
                due.add(line.substring(at + DUE.length()));
            }
        }
        CHECK.due("the example prints something", due.isEmpty(), false);
        CHECK.due("the example", printed(text), String.join("\n", due));
    }

    private static String printed(String text) throws IOException, ReflectiveOperationException {
        Path work = Files.createTempDirectory("readme");
        Path source = work.resolve("Example.java");
        Files.writeString(source, text);
        ToolProvider javac = ToolProvider.findFirst("javac").orElseThrow();
        int answer = javac.run(System.out, System.out, "--release", "17", "-Xlint:all", "-Werror",
                "-cp", System.getProperty("java.class.path"), "-d", work.toString(),
                source.toString());
        CHECK.due("javac of the example", answer, 0);
        String output = answer == 0 ? outputOf(work) : "";
        for (File file : work.toFile().listFiles()) {
            file.delete();
        }
        Files.delete(work);
        return output;
    }

    private static String outputOf(Path classes) throws IOException, ReflectiveOperationException {
        ByteArrayOutputStream bytes = new ByteArrayOutputStream();
        PrintStream before = System.out;
        try (URLClassLoader loader = new URLClassLoader(new URL[] {classes.toUri().toURL()});
                PrintStream here = new PrintStream(bytes, true, StandardCharsets.UTF_8)) {
            Method main = loader.loadClass("Example").getMethod("main", String[].class);
            System.setOut(here);
            main.invoke(null, (Object) new String[0]);
        } finally {
            System.setOut(before);
        }
        return bytes.toString(StandardCharsets.UTF_8).strip().replace("\r", "");
    }

    private static void everyCall(String readme) {
        Set<String> calls = new TreeSet<>();
        for (Method method : PermitTree.class.getDeclaredMethods()) {
            if (Modifier.isPublic(method.getModifiers())) {
                calls.add(method.getName() + "/" + method.getParameterCount());
            }
        }
        Set<String> told = new TreeSet<>();
        for (String cell : firstCells(readme)) {
            if (cell.endsWith(")")) {
                String inside = cell.substring(cell.indexOf('(') + 1, cell.length() - 1);
                int count = inside.isEmpty() ? 0 : inside.split(", ").length;
                told.add(cell.substring(0, cell.indexOf('(')) + "/" + count);
            }
        }
        CHECK.due("the calls that README.md tells of", told.toString(), calls.toString());
    }

    private static void everyTest(String readme) {
        Set<String> tests = new TreeSet<>();
        for (String file : new File("src/test/java").list()) {
            if (file.endsWith("Test.java")) {
                tests.add(file.replace(".java", ""));
            }
        }
        Set<String> told = new TreeSet<>();
        for (String cell : firstCells(readme)) {
            if (cell.endsWith("Test")) {
                told.add(cell);
            }
        }
        CHECK.due("the tests that README.md tells of", told.toString(), tests.toString());
    }

    /** What stands as code in the first column of a table. */
    private static List<String> firstCells(String readme) {
        List<String> cells = new ArrayList<>();
        for (String line : readme.split("\n")) {
            if (line.startsWith("| `")) {
                cells.add(line.substring(3, line.indexOf('`', 3)));
            }
        }
        return cells;
    }

    private ReadmeTest() {
    }
}
