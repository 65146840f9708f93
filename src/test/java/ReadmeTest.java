import java.io.ByteArrayOutputStream;
import java.io.IOException;
import java.io.PrintStream;
import java.net.URL;
import java.net.URLClassLoader;
import java.nio.charset.StandardCharsets;
import java.nio.file.Files;
import java.nio.file.Path;
import java.util.List;
import javax.tools.JavaCompiler;
import javax.tools.StandardJavaFileManager;
import javax.tools.ToolProvider;

/** The example of README.md, compiled and run as it stands there, prints what README.md says. */
public final class ReadmeTest {
    private static final Check CHECK = new Check("ReadmeTest");

    /** Where README.md is, .ci/run tells by -Dreadme. */
    public static void main(String[] args) throws ReflectiveOperationException, IOException {
        String readme = Files.readString(Path.of(System.getProperty("readme", "README.md")));
        String example = block(readme, readme.indexOf("### An example"), "```java\n");
        String due = block(readme, readme.indexOf(example) + example.length(), "```text\n");
        String printed = run(example);
        if (!printed.equals(due)) {
            System.out.println("README.md's example printed\n" + printed + "due is\n" + due);
        }
        CHECK.due("README.md's example prints what is said", printed.equals(due), true);
        everyCallIsNamed(readme);
        CHECK.end();
    }

    private static String block(String text, int from, String begin) {
        int start = text.indexOf(begin, from) + begin.length();
        return text.substring(start, text.indexOf("```", start));
    }

    private static String run(String example) throws ReflectiveOperationException, IOException {
        Path folder = Files.createTempDirectory("readme");
        Path source = folder.resolve("Example.java");
        Files.writeString(source, example);
        JavaCompiler compiler = ToolProvider.getSystemJavaCompiler();
        try (StandardJavaFileManager files = compiler.getStandardFileManager(null, null, null)) {
            boolean isCompiled = compiler.getTask(null, files, null, List.of("-d", folder.toString(), "-cp",
                System.getProperty("java.class.path")), null, files.getJavaFileObjects(source)).call();
            CHECK.due("README.md's example compiles", isCompiled, true);
        }
        PrintStream screen = System.out;
        ByteArrayOutputStream printed = new ByteArrayOutputStream();
        try (URLClassLoader loader = new URLClassLoader(new URL[] {folder.toUri().toURL()})) {
            System.setOut(new PrintStream(printed, true, StandardCharsets.UTF_8));
            loader.loadClass("Example").getMethod("main", String[].class).invoke(null, (Object) new String[0]);
        } finally {
            System.setOut(screen);
            Files.deleteIfExists(folder.resolve("Example.class"));
            Files.deleteIfExists(source);
            Files.deleteIfExists(folder);
        }
        return printed.toString(StandardCharsets.UTF_8);
    }

    private static void everyCallIsNamed(String readme) {
        for (java.lang.reflect.Method m : SeanceStreet.class.getDeclaredMethods()) {
            if (java.lang.reflect.Modifier.isPublic(m.getModifiers())) {
                boolean isNamed = readme.contains("`" + m.getName() + "`") || readme.contains("`" + m.getName() + "(");
                CHECK.due("README.md names " + m.getName(), isNamed, true);
            }
        }
    }
}
