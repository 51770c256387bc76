import java.lang.reflect.Method;
import java.lang.reflect.Modifier;
import java.net.URL;
import java.net.URLClassLoader;
import java.nio.file.Files;
import java.nio.file.Path;
import java.util.Arrays;
import java.util.regex.Matcher;
import java.util.regex.Pattern;
import java.util.stream.Stream;
import javax.tools.ToolProvider;

/** README.md: its examples answer what it says behind them, and it names every method and every test. */
public final class ReadmeTest {
    private static final Pattern BLOCK = Pattern.compile("(?s)```java\n(.*?)```");
    private static final Pattern ANSWERED = Pattern.compile("(?m)^(x\\.\\w+\\(.*?\\)); +// (-?\\d+|true|false)\\b.*$");
    private static int wrong;

    public static void main(String[] args) throws Exception {
        if (args.length == 0) throw new IllegalArgumentException("the project's directory is due");
        Path root = Path.of(args[0]);
        String readme = Files.readString(root.resolve("README.md"));
        namesAll(readme, root);
        runExamples(readme);
        System.out.println(wrong == 0 ? "README.md holds" : wrong + " faults of README.md");
        if (wrong != 0) System.exit(1);
    }

    /** The examples call this, so it is public. */
    public static void due(String call, Object got, String want) {
        check(String.valueOf(got).equals(want), call + " answered " + got + ", README.md says " + want);
    }

    private static void check(boolean good, String what) {
        if (!good) {
            wrong++;
            System.out.println(what);
        }
    }

    private static void namesAll(String readme, Path root) throws Exception {
        for (Method m : CloudDepth.class.getDeclaredMethods()) {
            if (Modifier.isPublic(m.getModifiers())) check(readme.contains("`" + m.getName() + "`"), "README.md has no " + m.getName());
        }
        try (Stream<Path> files = Files.list(root.resolve("src/test/java"))) {
            for (String name : files.map(f -> f.getFileName().toString()).filter(f -> f.endsWith("Test.java")).toList()) {
                check(readme.contains("`" + name.replace(".java", "") + "`"), "README.md has no " + name);
            }
        }
    }

    /** All blocks of Java code, one behind the other, as one program whose answered calls are looked at. */
    private static void runExamples(String readme) throws Exception {
        StringBuilder code = new StringBuilder();
        Matcher blocks = BLOCK.matcher(readme);
        while (blocks.find()) code.append(blocks.group(1));
        Matcher calls = ANSWERED.matcher(code);
        long answers = calls.results().count();
        check(answers >= 8, "examples with answers: " + answers);
        String body = calls.replaceAll("ReadmeTest.due(\"$1\", $1, \"$2\");");
        Path dir = Files.createTempDirectory("readme");
        Path file = dir.resolve("Example.java");
        Files.writeString(file, "public class Example { public static void main(String[] args) {\n" + body + "}}\n");
        int failed = ToolProvider.getSystemJavaCompiler().run(null, null, null,
            "-cp", System.getProperty("java.class.path"), "-d", dir.toString(), file.toString());
        check(failed == 0, "the examples do not compile");
        if (failed == 0) {
            try (URLClassLoader loader = new URLClassLoader(new URL[] {dir.toUri().toURL()})) {
                loader.loadClass("Example").getMethod("main", String[].class).invoke(null, (Object) new String[0]);
            }
        }
        for (String name : Arrays.asList("Example.java", "Example.class")) Files.deleteIfExists(dir.resolve(name));
        Files.deleteIfExists(dir);
    }
}
