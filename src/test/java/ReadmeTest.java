import java.io.ByteArrayOutputStream;
import java.io.IOException;
import java.io.PrintStream;
import java.lang.reflect.Method;
import java.lang.reflect.Modifier;
import java.net.URL;
import java.net.URLClassLoader;
import java.nio.file.Files;
import java.nio.file.Path;
import java.util.ArrayList;
import java.util.Comparator;
import java.util.List;
import java.util.regex.Matcher;
import java.util.regex.Pattern;
import java.util.stream.Stream;
import javax.tools.ToolProvider;

/** README.md: its example compiles and prints the answers that stand behind its calls, and it names each call. */
public final class ReadmeTest {
    private static final Pattern EXAMPLE = Pattern.compile("(?s)```java\\n(.*?)```");
    private static final Pattern PRINTED = Pattern.compile("println\\((.*)\\); +// ([^\\s:]+)");
    private static final Checks CHECKS = new Checks();

    private ReadmeTest() {
    }

    public static void main(String[] args) throws Exception {
        String readme = Files.readString(Path.of("README.md"));
        example(readme);
        calls(readme);
        CHECKS.due("it tells the command that runs the tests", readme.contains("```sh\n.ci/run\n```"), true);
        CHECKS.end();
    }

    private static void example(String readme) throws Exception {
        Matcher found = EXAMPLE.matcher(readme);
        CHECKS.due("there is an example", found.find(), true);
        String source = found.group(1);
        List<String> printed = printed(source);
        Matcher told = PRINTED.matcher(source);
        int n = 0;
        for (; told.find(); n++) {
            CHECKS.due(told.group(1), n < printed.size() ? printed.get(n) : "nothing", told.group(2));
        }
        CHECKS.due("lines printed", printed.size(), n);
        CHECKS.due("printing calls", source.split("println", -1).length - 1, n);
    }

    private static List<String> printed(String source) throws Exception {
        Path directory = Files.createTempDirectory("readme");
        try {
            return compileAndRun(source, directory);
        } finally {
            removeAll(directory);
        }
    }

    private static List<String> compileAndRun(String source, Path directory) throws Exception {
        Path file = Files.writeString(directory.resolve("Example.java"), source);
        String classes = System.getProperty("java.class.path");
        int failed = ToolProvider.getSystemJavaCompiler().run(null, null, null,
            "--release", "17", "-cp", classes, "-d", directory.toString(), file.toString());
        CHECKS.due("the example compiles, faults", failed, 0);
        if (failed != 0) {
            return new ArrayList<>();
        }
        try (URLClassLoader loader = new URLClassLoader(new URL[] {directory.toUri().toURL()})) {
            return run(loader.loadClass("Example"));
        }
    }

    private static List<String> run(Class<?> example) throws Exception {
        PrintStream before = System.out;
        ByteArrayOutputStream taken = new ByteArrayOutputStream();
        System.setOut(new PrintStream(taken, true));
        try {
            example.getMethod("main", String[].class).invoke(null, (Object) new String[0]);
        } finally {
            System.setOut(before);
        }
        return taken.toString().lines().toList();
    }

    private static void removeAll(Path directory) throws IOException {
        try (Stream<Path> files = Files.walk(directory)) {
            for (Path file : files.sorted(Comparator.reverseOrder()).toList()) {
                Files.delete(file);
            }
        }
    }

    private static void calls(String readme) {
        for (Method method : SharedEndings.class.getDeclaredMethods()) {
            if (Modifier.isPublic(method.getModifiers())) {
                Pattern row = Pattern.compile("(?m)^\\|.*`" + method.getName() + "\\(");
                CHECKS.due("the table names " + method.getName(), row.matcher(readme).find(), true);
            }
        }
    }
}
