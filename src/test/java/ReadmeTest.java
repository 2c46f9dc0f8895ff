import java.io.ByteArrayOutputStream;
import java.io.IOException;
import java.io.PrintStream;
import java.lang.reflect.Method;
import java.lang.reflect.Modifier;
import java.net.URL;
import java.net.URLClassLoader;
import java.nio.file.Files;
import java.nio.file.Path;
import java.util.ArrayList;
import java.util.List;
import javax.tools.ToolProvider;

/** README.md, read from the directory that the test is started in, says how to use the class as it is. */
public final class ReadmeTest {
    private static final String PRINT = "System.out.println(";

    public static void main(String[] args) throws Exception {
        List<String> readme = Files.readAllLines(Path.of("README.md"));
        List<String> example = example(readme);
        Check.due("README: what its example prints", printed(example), comments(example));
        Check.due("README: calls that its table does not have", callsNotInTable(readme), List.of());
        Check.end();
    }

    private static List<String> example(List<String> readme) {
        int start = readme.indexOf("```java") + 1;
        int length = readme.subList(start, readme.size()).indexOf("```");
        return readme.subList(start, start + length);
    }

    /** What is said behind each line that prints. */
    private static List<String> comments(List<String> example) {
        List<String> found = new ArrayList<>();
        for (String line : example) {
            if (line.contains(PRINT)) {
                found.add(line.substring(line.indexOf("// ") + 3));
            }
        }
        return found;
    }

    private static List<String> printed(List<String> example) throws Exception {
        Path directory = Files.createTempDirectory("readme");
        Path source = directory.resolve("Example.java");
        Path compiled = directory.resolve("Example.class");
        try {
            Files.write(source, example);
            int failed = ToolProvider.getSystemJavaCompiler().run(null, null, null,
                "-cp", System.getProperty("java.class.path"), "-d", directory.toString(), source.toString());
            return failed != 0 ? List.of("does not compile") : linesOf(directory);
        } finally {
            Files.deleteIfExists(compiled);
            Files.deleteIfExists(source);
            Files.deleteIfExists(directory);
        }
    }

    private static List<String> linesOf(Path directory) throws Exception {
        PrintStream before = System.out;
        ByteArrayOutputStream bytes = new ByteArrayOutputStream();
        System.setOut(new PrintStream(bytes, true));
        try {
            runExample(directory);
        } finally {
            System.setOut(before);
        }
        return bytes.toString().lines().toList();
    }

    private static void runExample(Path directory) throws IOException, ReflectiveOperationException {
        try (URLClassLoader loader = new URLClassLoader(new URL[] {directory.toUri().toURL()})) {
            loader.loadClass("Example").getMethod("main", String[].class).invoke(null, (Object) new String[0]);
        }
    }

    private static List<String> callsNotInTable(List<String> readme) {
        List<String> missing = new ArrayList<>();
        for (Method method : PolynomialHeap.class.getDeclaredMethods()) {
            String start = "| `" + method.getName() + "(";
            if (Modifier.isPublic(method.getModifiers()) && readme.stream().noneMatch(line -> line.startsWith(start))) {
                missing.add(method.getName());
            }
        }
        return missing;
    }
}
