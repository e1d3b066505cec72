import java.io.ByteArrayOutputStream;
import java.io.File;
import java.io.IOException;
import java.io.PrintStream;
import java.lang.reflect.Method;
import java.lang.reflect.Modifier;
import java.net.URL;
import java.net.URLClassLoader;
import java.nio.charset.StandardCharsets;
import java.nio.file.Files;
import java.nio.file.Path;
import java.util.stream.Stream;
import javax.tools.JavaCompiler;
import javax.tools.ToolProvider;

/** README.md: its example prints what it says, and it names every call and every test. */
public final class ReadmeTest {
    public static void main(String[] args) throws IOException {
        String readme = Files.readString(Path.of("README.md"));
        example(readme);
        names(readme);
        Check.end("ReadmeTest");
    }

    private static void example(String readme) throws IOException {
        String source = block(readme, "```java\n");
        String due = block(readme.substring(Math.max(0, readme.indexOf("It prints:"))), "```text\n");
        Check.due("README.md has an example", source.contains("class Example") && !due.isEmpty(), true);
        Check.same("the example of README.md", printed(source), due);
    }

    /** The text between such a fence and the next one. */
    private static String block(String text, String fence) {
        int begin = text.indexOf(fence);
        int end = text.indexOf("```", begin + fence.length());
        return begin < 0 || end < 0 ? "" : text.substring(begin + fence.length(), end);
    }

    private static String printed(String source) throws IOException {
        JavaCompiler compiler = ToolProvider.getSystemJavaCompiler();
        Path directory = Files.createTempDirectory("readme");
        Path file = directory.resolve("Example.java");
        try {
            Files.writeString(file, source);
            String path = System.getProperty("java.class.path");
            if (compiler.run(null, null, null, "-cp", path, "-d", directory.toString(), file.toString()) != 0) {
                return "(does not compile)";
            }
            return run(directory);
        } finally {
            for (File left : directory.toFile().listFiles()) {
                Files.delete(left.toPath());
            }
            Files.delete(directory);
        }
    }

    private static String run(Path directory) throws IOException {
        PrintStream before = System.out;
        ByteArrayOutputStream taken = new ByteArrayOutputStream();
        try (URLClassLoader loader = new URLClassLoader(new URL[] {directory.toUri().toURL()})) {
            System.setOut(new PrintStream(taken, true, StandardCharsets.UTF_8));
            loader.loadClass("Example").getMethod("main", String[].class).invoke(null, (Object) new String[0]);
        } catch (ReflectiveOperationException e) {
            return "(" + e + ", " + e.getCause() + ")";
        } finally {
            System.setOut(before);
        }
        return taken.toString(StandardCharsets.UTF_8).replace(System.lineSeparator(), "\n");
    }

    private static void names(String readme) throws IOException {
        for (Method call : ThreeBreaths.class.getDeclaredMethods()) {
            if (Modifier.isPublic(call.getModifiers())) {
                Check.due("README.md names " + call.getName(), table(readme).contains("`" + call.getName() + "`"), true);
            }
        }
        try (Stream<Path> files = Files.list(Path.of("src/test/java"))) {
            for (Path file : files.sorted().toList()) {
                String test = file.getFileName().toString().replace(".java", "");
                Check.due("README.md names " + test, readme.contains("`" + test + "`") || readme.contains("`@" + test + "`"), true);
            }
        }
    }

    /** The lines that tell which calls there are for what. */
    private static String table(String readme) {
        StringBuilder lines = new StringBuilder();
        for (String line : readme.split("\n")) {
            lines.append(line.startsWith("|") ? line : "");
        }
        return lines.toString();
    }
}
