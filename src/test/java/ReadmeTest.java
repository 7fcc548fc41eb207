import java.io.ByteArrayOutputStream;
import java.io.File;
import java.io.IOException;
import java.io.PrintStream;
import java.lang.reflect.Field;
import java.lang.reflect.InvocationTargetException;
import java.lang.reflect.Method;
import java.lang.reflect.Modifier;
import java.net.URL;
import java.net.URLClassLoader;
import java.nio.file.Files;
import java.nio.file.Path;
import java.util.Arrays;
import javax.tools.ToolProvider;

/** README.md tells the truth: its example prints what stands there, and no call and no test is missing. */
public final class ReadmeTest {
    private static final Path PAGE = Path.of("README.md");
    private static final Path TESTS = Path.of("src", "test", "java");

    public static void main(String[] args) throws IOException, IllegalAccessException {
        String page = Files.readString(PAGE);
        exampleDoesWhatItSays(page);
        everyCallIsTold(page);
        everyTestIsTold(page);
        Check.end("ReadmeTest");
    }

    private static void exampleDoesWhatItSays(String page) throws IOException {
        String example = blockAfter(page, page.indexOf("## How to use it"), "java");
        String printed = blockAfter(page, page.indexOf("It prints:"), "text");
        Path directory = Files.createTempDirectory("readme");
        Path file = directory.resolve("Example.java");
        Files.writeString(file, example);
        int errors = ToolProvider.getSystemJavaCompiler().run(null, null, null,
                "-cp", System.getProperty("java.class.path"), "-d", directory.toString(), file.toString());
        Check.same("errors of the example", 0, () -> errors);
        if (errors == 0) {
            Check.same("the example", printed, () -> printedBy(directory));
        }
        for (File made : directory.toFile().listFiles()) {
            Files.delete(made.toPath());
        }
        Files.delete(directory);
    }

    private static String blockAfter(String page, int from, String kind) {
        String open = "```" + kind + "\n";
        int start = page.indexOf(open, Math.max(0, from)) + open.length();
        return page.substring(start, page.indexOf("```", start));
    }

    private static String printedBy(Path directory) {
        PrintStream before = System.out;
        ByteArrayOutputStream printed = new ByteArrayOutputStream();
        try (URLClassLoader loader = new URLClassLoader(new URL[] {directory.toUri().toURL()})) {
            Method main = loader.loadClass("Example").getMethod("main", String[].class);
            System.setOut(new PrintStream(printed));
            main.invoke(null, (Object) new String[0]);
        } catch (IOException | ReflectiveOperationException e) {
            return e instanceof InvocationTargetException ? "throws " + e.getCause() : e.toString();
        } finally {
            System.out.flush();
            System.setOut(before);
        }
        return printed.toString().replace(System.lineSeparator(), "\n");
    }

    private static void everyCallIsTold(String page) throws IllegalAccessException {
        for (Method method : TonePlates.class.getDeclaredMethods()) {
            if (Modifier.isPublic(method.getModifiers())) {
                Check.same("a row for " + method.getName(), true,
                        () -> page.contains("\n| `" + method.getName() + "("));
            }
        }
        for (Field field : TonePlates.class.getFields()) {
            String row = "\n| " + field.getInt(null) + " | `" + field.getName() + "` |";
            Check.same("a row for " + field.getName(), true, () -> page.contains(row));
        }
    }

    private static void everyTestIsTold(String page) {
        String[] files = TESTS.toFile().list((directory, name) -> name.endsWith("Test.java"));
        Check.same("tests", true, () -> files.length > 0);
        Arrays.sort(files);
        for (String file : files) {
            String test = file.substring(0, file.length() - ".java".length());
            Check.same("a row for " + test, true, () -> page.contains("\n| " + test + " |"));
        }
    }
}
