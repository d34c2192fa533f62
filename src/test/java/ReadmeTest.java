import java.io.ByteArrayOutputStream;
import java.io.IOException;
import java.io.PrintStream;
import java.lang.reflect.Constructor;
import java.lang.reflect.Method;
import java.lang.reflect.Modifier;
import java.net.URL;
import java.net.URLClassLoader;
import java.nio.file.Files;
import java.nio.file.Path;
import java.util.ArrayList;
import java.util.List;
import javax.tools.ToolProvider;

/** README.md tells every call of the class, and its example prints what it says. Run where README.md is. */
public final class ReadmeTest {
    private static final Check check = new Check();

    public static void main(String[] args) throws Exception {
        List<String> lines = Files.readAllLines(Path.of("README.md"));
        tellsEveryCall(lines);
        printsWhatItSays(block(lines, "```java"));
        check.end();
    }

    private static void tellsEveryCall(List<String> lines) {
        for (Constructor<?> constructor : RecalcSheet.class.getConstructors()) {
            tells(lines, constructor.getName() + "(", new Class<?>[0]);
        }
        for (Method method : RecalcSheet.class.getDeclaredMethods()) {
            if (Modifier.isPublic(method.getModifiers())) {
                tells(lines, method.getReturnType() + " " + method.getName() + "(", method.getExceptionTypes());
            }
        }
    }

    /** A row of the table begins with the call and names all that it throws. */
    private static void tells(List<String> lines, String call, Class<?>[] thrown) {
        List<String> rows = new ArrayList<>(lines);
        rows.removeIf(line -> !line.startsWith("| `" + call));
        check.due("rows on " + call + ")", rows.size(), 1);
        for (Class<?> one : thrown) {
            check.due("a row on " + call + ") with " + one.getSimpleName(),
                    rows.size() == 1 && rows.get(0).contains("`" + one.getSimpleName() + "`"), true);
        }
    }

    /** The lines of the first block that begins with this line. */
    private static List<String> block(List<String> lines, String begin) {
        int from = lines.indexOf(begin) + 1;
        int count = lines.subList(from, lines.size()).indexOf("```");
        return lines.subList(from, from + count);
    }

    private static void printsWhatItSays(List<String> example) throws Exception {
        List<String> due = new ArrayList<>();
        for (String line : example) {
            if (line.contains("println(")) {
                due.add(line.substring(line.indexOf("// ") + 3));
            }
        }
        check.due("lines that print", due.size() > 10, true);
        check.due("the example", printed(example), due);
    }

    private static List<String> printed(List<String> example) throws Exception {
        Path directory = Files.createTempDirectory("readme");
        try {
            Path source = Files.write(directory.resolve("Example.java"), example);
            int code = ToolProvider.getSystemJavaCompiler().run(null, null, null,
                    "-cp", System.getProperty("java.class.path"), "-d", directory.toString(), source.toString());
            check.due("compiling the example", code, 0);
            return code == 0 ? run(directory) : List.of();
        } finally {
            delete(directory);
        }
    }

    private static List<String> run(Path directory) throws Exception {
        PrintStream before = System.out;
        ByteArrayOutputStream bytes = new ByteArrayOutputStream();
        try (URLClassLoader loader = new URLClassLoader(new URL[] {directory.toUri().toURL()})) {
            System.setOut(new PrintStream(bytes, true));
            loader.loadClass("Example").getMethod("main", String[].class).invoke(null, (Object) new String[0]);
        } finally {
            System.setOut(before);
        }
        return bytes.toString().lines().toList();
    }

    private static void delete(Path directory) throws IOException {
        try (var files = Files.list(directory)) {
            for (Path file : files.toList()) {
                Files.delete(file);
            }
        }
        Files.delete(directory);
    }
}
