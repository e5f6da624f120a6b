import java.lang.reflect.InvocationTargetException;
import java.lang.reflect.Method;
import java.lang.reflect.Modifier;
import java.net.URL;
import java.net.URLClassLoader;
import java.nio.file.DirectoryStream;
import java.nio.file.Files;
import java.nio.file.Path;
import java.util.regex.Matcher;
import java.util.regex.Pattern;
import javax.tools.ToolProvider;

/** README.md: its example answers what it says there, and it tells of every call and of every test. */
public final class ReadmeTest {
    private static final Checks C = new Checks();

    public static void main(String[] args) throws Exception {
        C.about("README.md");
        String readme = Files.readString(Path.of("README.md"));
        example(codeOf(readme, 0), codeOf(readme, 1));
        calls(readme);
        tests(readme);
        C.end();
    }

    private static String codeOf(String readme, int number) {
        int from = 0;
        for (int i = 0; i <= number; i++) {
            from = readme.indexOf("```java\n", from) + 8;
        }
        return readme.substring(from, readme.indexOf("```", from));
    }

    /** Compiles the README's code, with a check behind each line that tells what it answers, and runs it. */
    private static void example(String statements, String function) throws Exception {
        Matcher answer = Pattern.compile("(\\w+) (\\w+) = ([^\n]*;) +// (-?\\w+)").matcher(statements);
        long answers = answer.results().count();
        C.due("enough answers in the example: " + answers, answers >= 5, true);
        String checked = answer.replaceAll("$1 $2 = $3 if ($2 != $4) { throw new IllegalStateException(\"$2 is \" + $2); }");
        Path directory = Files.createTempDirectory("readme");
        Path file = Files.writeString(directory.resolve("Example.java"),
                "public class Example {\npublic static void main(String[] args) {\n" + checked + "}\n" + function + "}\n");
        int failed = ToolProvider.getSystemJavaCompiler().run(null, null, null, "-cp", System.getProperty("java.class.path"),
                "-d", directory.toString(), file.toString());
        C.due("javac on the example", failed, 0);
        if (failed == 0) {
            run(directory);
        }
        Files.deleteIfExists(directory.resolve("Example.class"));
        Files.delete(file);
        Files.delete(directory);
    }

    private static void run(Path directory) throws Exception {
        try (URLClassLoader loader = new URLClassLoader(new URL[] {directory.toUri().toURL()})) {
            loader.loadClass("Example").getMethod("main", String[].class).invoke(null, (Object) new String[0]);
        } catch (InvocationTargetException thrown) {
            C.due("the example: " + thrown.getCause(), true, false);
        }
    }

    private static void calls(String readme) {
        for (Method method : WishSea.class.getDeclaredMethods()) {
            if (Modifier.isPublic(method.getModifiers())) {
                C.due("tells of " + method.getName(), readme.contains("`" + method.getName() + "("), true);
            }
        }
    }

    private static void tests(String readme) throws Exception {
        try (DirectoryStream<Path> files = Files.newDirectoryStream(Path.of("src/test/java"), "*Test.java")) {
            for (Path file : files) {
                String name = file.getFileName().toString().replace(".java", "");
                C.due("tells of " + name, readme.contains("| " + name + " |"), true);
            }
        }
    }
}
