import java.io.IOException;
import java.lang.reflect.Method;
import java.lang.reflect.Modifier;
import java.net.URL;
import java.net.URLClassLoader;
import java.nio.file.DirectoryStream;
import java.nio.file.Files;
import java.nio.file.Path;
import java.util.regex.Matcher;
import java.util.regex.Pattern;
import javax.tools.JavaCompiler;
import javax.tools.ToolProvider;

/** Whether README.md holds: its example answers what it says, and it names every call and every test. */
public final class ReadmeTest {
    private static final Pattern ANSWERED = Pattern.compile("(?m)^(x\\.\\w+\\(.*?\\)); +// (-?\\d+|[A-Z]+): .*$");
    private static int wrong = 0;

    /** The example calls it for each answer that it tells. */
    public static void due(String call, long got, long want) {
        if (got != want) {
            wrong++;
            System.out.println("README.md: " + call + " answered " + got + ", due is " + want);
        }
    }

    public static void main(String[] args) throws IOException, ReflectiveOperationException {
        String readme = Files.readString(Path.of("README.md"));
        names(readme);
        int answers = example(readme);
        System.out.println(answers + " answers of the example, "
            + (wrong == 0 ? "README.md holds" : wrong + " things do not hold"));
        if (wrong != 0) {
            System.exit(1);
        }
    }

    private static void named(String readme, String name) {
        if (!readme.contains("`" + name + "`")) {
            wrong++;
            System.out.println("README.md does not name " + name);
        }
    }

    private static void names(String readme) throws IOException {
        for (Method method : DikeWatch.class.getDeclaredMethods()) {
            if (Modifier.isPublic(method.getModifiers())) {
                named(readme, method.getName());
            }
        }
        try (DirectoryStream<Path> files = Files.newDirectoryStream(Path.of("src/test/java"), "*.java")) {
            for (Path file : files) {
                named(readme, file.getFileName().toString().replace(".java", ""));
            }
        }
    }

    /** How many answers it tells. */
    private static int example(String readme) throws IOException, ReflectiveOperationException {
        Matcher block = Pattern.compile("(?s)```java\n(.*?)```").matcher(readme);
        Matcher answered = ANSWERED.matcher(block.find() ? block.group(1) : "");
        int answers = (int) answered.results().count();
        if (answers == 0) {
            wrong++;
            System.out.println("README.md has no example with answers");
            return 0;
        }
        Path folder = Files.createTempDirectory("readme");
        Path source = folder.resolve("Example.java");
        Path compiled = folder.resolve("Example.class");
        String checked = answered.reset().replaceAll(found -> Matcher.quoteReplacement(check(found.group(1), found.group(2))));
        Files.writeString(source, "public class Example {\npublic static void run() {\n" + checked + "}\n}\n");
        try {
            runExample(folder, source);
        } finally {
            Files.deleteIfExists(compiled);
            Files.deleteIfExists(source);
            Files.deleteIfExists(folder);
        }
        return answers;
    }

    private static String check(String call, String answer) {
        String want = answer.matches("[A-Z]+") ? "DikeWatch." + answer : answer + "L";
        return "ReadmeTest.due(\"" + call + "\", " + call + ", " + want + ");";
    }

    private static void runExample(Path folder, Path source) throws IOException, ReflectiveOperationException {
        JavaCompiler compiler = ToolProvider.getSystemJavaCompiler();
        String path = System.getProperty("java.class.path");
        if (compiler == null || compiler.run(null, null, null, "-cp", path, "-d", folder.toString(), source.toString()) != 0) {
            wrong++;
            System.out.println("README.md: the example does not compile");
            return;
        }
        try (URLClassLoader loader = new URLClassLoader(new URL[] {folder.toUri().toURL()}, ReadmeTest.class.getClassLoader())) {
            loader.loadClass("Example").getMethod("run").invoke(null);
        }
    }
}
