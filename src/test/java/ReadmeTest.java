import java.io.ByteArrayOutputStream;
import java.io.IOException;
import java.io.PrintStream;
import java.lang.reflect.Method;
import java.lang.reflect.Modifier;
import java.net.URL;
import java.net.URLClassLoader;
import java.nio.file.Files;
import java.nio.file.Path;
import java.util.stream.Stream;
import javax.tools.ToolProvider;

/** README.md tells the truth: its program prints what it says, and its table names every call. */
public final class ReadmeTest {
    public static void main(String[] args) throws Exception {
        Check check = new Check();
        String readme = Files.readString(Path.of("README.md"));
        String program = blockBehind(readme, "```java\n");
        check.same("the program of README.md", printedBy(program), blockBehind(readme, "It prints:\n\n```\n"));
        for (Method method : LockMaster.class.getDeclaredMethods()) {
            boolean isTold = !Modifier.isPublic(method.getModifiers())
                    || readme.lines().anyMatch(line -> line.startsWith("| `") && names(line, method));
            check.isTrue("the table names " + method.getName(), isTold);
        }
        ownTests(check, readme);
        check.finish();
    }

    /** A call is named with as many words between its brackets as it has parameters. */
    private static boolean names(String line, Method method) {
        String words = "(?:\\w+(?:, \\w+){" + (method.getParameterCount() - 1) + "})";
        String inBrackets = method.getParameterCount() == 0 ? "" : words;
        return line.matches(".*`" + method.getName() + "\\(" + inBrackets + "\\)`.*");
    }

    private static void ownTests(Check check, String readme) throws IOException {
        try (Stream<Path> files = Files.list(Path.of("src/test/java"))) {
            files.map(file -> file.getFileName().toString()).filter(name -> name.endsWith("Test.java"))
                    .forEach(name -> check.isTrue("README.md names " + name,
                            readme.contains("`" + name.replace(".java", "") + "`")));
        }
    }

    private static String blockBehind(String readme, String mark) {
        int start = readme.indexOf(mark);
        return start < 0 ? "" : readme.substring(start + mark.length(), readme.indexOf("```", start + mark.length()));
    }

    private static String printedBy(String program) throws Exception {
        Path directory = Files.createTempDirectory("readme");
        Path source = Files.writeString(directory.resolve("Example.java"), program);
        int wrong = ToolProvider.getSystemJavaCompiler().run(null, null, null,
                "-cp", System.getProperty("java.class.path"), "-d", directory.toString(), source.toString());
        if (wrong != 0) {
            return "it does not compile";
        }
        PrintStream screen = System.out;
        ByteArrayOutputStream printed = new ByteArrayOutputStream();
        try (URLClassLoader loader = new URLClassLoader(new URL[] {directory.toUri().toURL()})) {
            System.setOut(new PrintStream(printed));
            loader.loadClass("Example").getMethod("main", String[].class).invoke(null, (Object) new String[0]);
        } finally {
            System.setOut(screen);
            Files.deleteIfExists(directory.resolve("Example.class"));
            Files.deleteIfExists(source);
            Files.deleteIfExists(directory);
        }
        return printed.toString().replace(System.lineSeparator(), "\n");
    }
}
