import java.io.ByteArrayOutputStream;
import java.io.IOException;
import java.io.PrintStream;
import java.lang.reflect.Method;
import java.lang.reflect.Modifier;
import java.net.URL;
import java.net.URLClassLoader;
import java.nio.charset.StandardCharsets;
import java.nio.file.Files;
import java.nio.file.Path;
import javax.tools.ToolProvider;

/** README.md tells no more than is so: its program compiles and prints what stands there, and it names every call. */
public final class ReadmeTest {
    private static final Checks CHECKS = new Checks();

    /** The first block of the page with this name behind its three ticks. */
    private static String block(String page, String name) {
        String opening = "\n```" + name + "\n";
        int at = page.indexOf(opening);
        if (at < 0) {
            return "";
        }
        int from = at + opening.length();
        int to = page.indexOf("\n```", from);
        return to < 0 ? "" : page.substring(from, to);
    }

    private static int compile(Path program, Path classes) {
        return ToolProvider.getSystemJavaCompiler().run(null, null, null, "-Xlint:all", "-Werror",
            "-cp", System.getProperty("java.class.path"), "-d", classes.toString(), program.toString());
    }

    private static String printed(Path classes) throws Exception {
        ByteArrayOutputStream bytes = new ByteArrayOutputStream();
        PrintStream before = System.out;
        try (URLClassLoader loader = new URLClassLoader(new URL[] {classes.toUri().toURL()});
                PrintStream out = new PrintStream(bytes, true, StandardCharsets.UTF_8)) {
            System.setOut(out);
            loader.loadClass("Voyage").getMethod("main", String[].class).invoke(null, (Object) new String[0]);
        } finally {
            System.setOut(before);
        }
        return bytes.toString(StandardCharsets.UTF_8);
    }

    private static void voyage(String page) throws Exception {
        Path room = Files.createTempDirectory("voyage");
        Path program = room.resolve("Voyage.java");
        Files.writeString(program, block(page, "java"));
        int refused = compile(program, room);
        CHECKS.due("the page's program compiles", refused, 0);
        if (refused == 0) {
            CHECKS.due("the page's program", printed(room).stripTrailing(), block(page, "text").stripTrailing());
        }
        empty(room);
    }

    private static void empty(Path room) throws IOException {
        try (var files = Files.list(room)) {
            for (Path file : files.toList()) {
                Files.delete(file);
            }
        }
        Files.delete(room);
    }

    private static void calls(String page) {
        for (Method method : SillHours.class.getDeclaredMethods()) {
            if (Modifier.isPublic(method.getModifiers())) {
                CHECKS.due("the page names " + method.getName() + "()", page.contains("`" + method.getName() + "(") ? 1 : 0, 1);
            }
        }
    }

    /** Each test of the project stands on the page. */
    private static void tests(String page) throws IOException {
        try (var files = Files.list(Path.of("src/test/java"))) {
            for (Path file : files.filter(path -> path.toString().endsWith("Test.java")).toList()) {
                String name = file.getFileName().toString().replace(".java", "");
                CHECKS.due("the page names " + name, page.contains("`" + name + "`") ? 1 : 0, 1);
            }
        }
    }

    public static void main(String[] args) throws Exception {
        String page = Files.readString(Path.of("README.md"));
        voyage(page);
        calls(page);
        tests(page);
        CHECKS.close();
    }
}
