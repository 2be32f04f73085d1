import java.lang.reflect.Field;
import java.lang.reflect.Method;
import java.lang.reflect.Modifier;
import java.net.URL;
import java.net.URLClassLoader;
import java.nio.file.Files;
import java.nio.file.Path;
import java.util.List;
import java.util.regex.Matcher;
import java.util.regex.Pattern;
import java.util.stream.Collectors;
import java.util.stream.Stream;
import javax.tools.JavaCompiler;
import javax.tools.ToolProvider;

/** What README.md shows as an example answers as it says, and it names every call, every constant, every test. */
public final class ReadmeTest {
    private static final Path PAGE = Path.of("README.md"), TESTS = Path.of("src/test/java");
    private static final Pattern EXAMPLE = Pattern.compile("```java\n(.*?)```", Pattern.DOTALL);
    /** A call that stands alone in its line, and what it answers. */
    private static final Pattern SHOWN = Pattern.compile("x\\.(\\w+\\(.*\\)); *// (-?\\d+)\\b.*");
    private static final int CALLS_OF_AN_OBJECT = 512;

    private static int wrong;
    private static int shown;

    public static void main(String[] args) throws Exception {
        String page = Files.readString(PAGE);
        Matcher example = EXAMPLE.matcher(page);
        need(example.find(), "there is no example");
        runExample(example.group(1));
        names(page);
        System.out.println(shown + " calls of the example, not as README.md says: " + wrong);
        if (wrong != 0) {
            System.exit(1);
        }
    }

    private static void need(boolean so, String otherwise) {
        if (!so) {
            wrong++;
            System.out.println(otherwise);
        }
    }

    /** Called by the example. */
    public static void due(String call, long got, long want) {
        shown++;
        need(got == want, call + " answered " + got + ", README.md says " + want);
    }

    private static void runExample(String example) throws Exception {
        StringBuilder code = new StringBuilder("public final class ReadmeExample { public static void run() {\n");
        for (String line : example.split("\n")) {
            Matcher call = SHOWN.matcher(line);
            need(!line.startsWith("x.") || call.matches(), "no answer is shown: " + line);
            code.append(call.matches()
                ? "ReadmeTest.due(\"" + call.group(1) + "\", x." + call.group(1) + ", " + call.group(2) + "L);" : line).append('\n');
        }
        Path place = Files.createTempDirectory("readme");
        Path file = place.resolve("ReadmeExample.java");
        Files.writeString(file, code.append("} }\n"));
        JavaCompiler compiler = ToolProvider.getSystemJavaCompiler();
        int fault = compiler.run(null, null, null, "-cp", System.getProperty("java.class.path"), "-d", place.toString(), file.toString());
        need(fault == 0, "the example can't be compiled");
        if (fault == 0) {
            try (URLClassLoader loader = new URLClassLoader(new URL[] {place.toUri().toURL()}, ReadmeTest.class.getClassLoader())) {
                loader.loadClass("ReadmeExample").getMethod("run").invoke(null);
            }
        }
        need(shown > 0 && shown < CALLS_OF_AN_OBJECT, "the example shows " + shown + " calls");
        try (Stream<Path> files = Files.list(place)) {
            for (Path each : files.collect(Collectors.toList())) {
                Files.delete(each);
            }
        }
        Files.delete(place);
    }

    private static void names(String page) throws Exception {
        for (Method m : AnnCups.class.getDeclaredMethods()) {
            need(!Modifier.isPublic(m.getModifiers()) || page.contains("`" + m.getName() + "`"), "a call is not named: " + m);
        }
        for (Field f : AnnCups.class.getFields()) {
            need(page.contains("`" + f.getName() + "` " + f.get(null)), "a constant is not named: " + f);
        }
        try (Stream<Path> files = Files.list(TESTS)) {
            List<String> tests = files.map(f -> f.getFileName().toString().replace(".java", "")).collect(Collectors.toList());
            for (String test : tests) {
                need(page.contains("`" + test + "`"), "a test is not named: " + test);
            }
        }
    }
}
