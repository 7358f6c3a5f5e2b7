import java.io.IOException;
import java.lang.reflect.Method;
import java.lang.reflect.Modifier;
import java.net.URL;
import java.net.URLClassLoader;
import java.nio.file.Files;
import java.nio.file.Path;
import java.util.regex.Matcher;
import java.util.regex.Pattern;
import javax.tools.ToolProvider;

/** The example in README.md runs and answers what it says there, and every call is named. */
public final class StoryNumbersReadme extends Answers {
    private static final Pattern EXAMPLE = Pattern.compile("(?s)```java\n(.*?)```");
    private static final Pattern TOLD_ANSWER = Pattern.compile("(?m)^(x\\.\\w+\\(.*\\)); +// (-?\\d+).*$");

    private static String example(String readme) {
        Matcher m = EXAMPLE.matcher(readme);
        return m.find() ? m.group(1) : "";
    }

    /** A program that runs the example and answers a row: of each call what it answered, then what is told. */
    private static String program(String example) {
        Matcher m = TOLD_ANSWER.matcher(example);
        return "public class Example { public static java.util.List<Object[]> run() {\n"
                + "java.util.List<Object[]> rows = new java.util.ArrayList<>();\n"
                + m.replaceAll(r -> Matcher.quoteReplacement("rows.add(new Object[] {\"" + r.group(1) + "\", (long) "
                        + r.group(1) + ", " + r.group(2) + "L});"))
                + "return rows; } }\n";
    }

    private static Iterable<?> run(String program) throws IOException, ReflectiveOperationException {
        Path dir = Files.createTempDirectory("readme");
        Path file = dir.resolve("Example.java");
        Path compiled = dir.resolve("Example.class");
        try {
            Files.writeString(file, program);
            String classes = System.getProperty("java.class.path");
            int ended = ToolProvider.getSystemJavaCompiler().run(null, null, null,
                    "-cp", classes, "-d", dir.toString(), file.toString());
            due("javac of the example", ended, 0);
            try (URLClassLoader loader = new URLClassLoader(new URL[] {dir.toUri().toURL()})) {
                return (Iterable<?>) loader.loadClass("Example").getMethod("run").invoke(null);
            }
        } finally {
            Files.deleteIfExists(compiled);
            Files.deleteIfExists(file);
            Files.deleteIfExists(dir);
        }
    }

    public static void main(String[] args) throws IOException, ReflectiveOperationException {
        String readme = Files.readString(Path.of("README.md"));
        int rows = 0;
        for (Object row : run(program(example(readme)))) {
            Object[] cells = (Object[]) row;
            due((String) cells[0], (Long) cells[1], (Long) cells[2]);
            rows++;
        }
        due("whether the example has calls", rows > 0 ? 1 : 0, 1);
        for (Method m : StoryNumbers.class.getDeclaredMethods()) {
            if (Modifier.isPublic(m.getModifiers())) {
                due("whether README.md names " + m.getName(), readme.contains("`" + m.getName() + "`") ? 1 : 0, 1);
            }
        }
        end("readme");
    }
}
