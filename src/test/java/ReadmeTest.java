import java.io.ByteArrayOutputStream;
import java.io.PrintStream;
import java.lang.reflect.Method;
import java.lang.reflect.Modifier;
import java.net.URL;
import java.net.URLClassLoader;
import java.nio.charset.StandardCharsets;
import java.nio.file.Files;
import java.nio.file.Path;
import java.util.regex.Matcher;
import java.util.regex.Pattern;
import java.util.stream.Stream;
import javax.tools.ToolProvider;

/** What README.md says of use and tests: its program is run, and nothing that is there may be left unnamed. */
public final class ReadmeTest {
    private static final Due due = new Due();

    public static void main(String[] args) throws Exception {
        String readme = Files.readString(Path.of("README.md")).replace("\r", "");
        example(readme);
        names(readme);
        due.end();
    }

    private static void example(String readme) throws Exception {
        Path dir = Files.createTempDirectory("readme");
        Path source = dir.resolve("Example.java");
        try {
            Files.writeString(source, block(readme, "java"));
            int fault = ToolProvider.getSystemJavaCompiler().run(null, null, null, "-d", dir.toString(), "-cp",
                    System.getProperty("java.class.path"), source.toString());
            due.is("the example does not compile", fault, 0);
            if (fault == 0) {
                due.is("the example", printed(dir), block(readme, "text"));
            }
        } finally {
            Files.deleteIfExists(dir.resolve("Example.class"));
            Files.deleteIfExists(source);
            Files.deleteIfExists(dir);
        }
    }

    private static String printed(Path dir) throws Exception {
        PrintStream screen = System.out;
        ByteArrayOutputStream bytes = new ByteArrayOutputStream();
        try (URLClassLoader loader = new URLClassLoader(new URL[] {dir.toUri().toURL()})) {
            System.setOut(new PrintStream(bytes, true, StandardCharsets.UTF_8));
            loader.loadClass("Example").getMethod("main", String[].class).invoke(null, (Object) new String[0]);
        } finally {
            System.setOut(screen);
        }
        return bytes.toString(StandardCharsets.UTF_8).replace("\r", "");
    }

    private static String block(String readme, String sort) {
        Matcher block = Pattern.compile("(?s)\n```" + sort + "\n(.*?)```\n").matcher(readme);
        return block.find() ? block.group(1) : "";
    }

    private static void names(String readme) throws Exception {
        for (Method method : TurfGiving.class.getDeclaredMethods()) {
            if (Modifier.isPublic(method.getModifiers())) {
                due.is("README names " + method.getName(), readme.contains("`" + method.getName() + "`"), true);
            }
        }
        for (Class<?> inside : TurfGiving.class.getDeclaredClasses()) {
            due.is("README names " + inside, readme.contains("| " + inside.getSimpleName() + " |"), true);
        }
        try (Stream<Path> tests = Files.list(Path.of("src/test/java"))) {
            for (Path test : tests.filter(file -> file.toString().endsWith("Test.java")).toList()) {
                String name = test.getFileName().toString().replace(".java", "");
                due.is("README names " + name, readme.contains("| " + name + " |"), true);
            }
        }
    }
}
