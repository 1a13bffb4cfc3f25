import java.io.OutputStream;
import java.io.PrintStream;
import java.io.StringWriter;
import java.lang.reflect.Method;
import java.net.URI;
import java.net.URL;
import java.net.URLClassLoader;
import java.nio.file.Files;
import java.nio.file.Path;
import java.util.ArrayList;
import java.util.List;
import java.util.Set;
import java.util.TreeSet;
import java.util.concurrent.ConcurrentSkipListSet;
import java.util.concurrent.ExecutorService;
import java.util.concurrent.Executors;
import java.util.concurrent.TimeUnit;
import java.util.concurrent.atomic.AtomicInteger;
import java.util.regex.Matcher;
import java.util.regex.Pattern;
import javax.tools.JavaCompiler;
import javax.tools.JavaFileObject;
import javax.tools.SimpleJavaFileObject;
import javax.tools.ToolProvider;

/**
 * By hand, no part of .ci/run: breaks src/main/java/SillHours.java in one place at a time (a comparison, a sign, a number,
 * a statement left out), runs the boundary tests on what comes of it, and tells the breaks that none of them sees, and
 * the sentences that no break breaks. What is left has to be looked at: most are guards that no call can reach. See the
 * README for how to run it.
 */
public final class Breaks {
    private static final String[] TESTS = {"TextEdgesTest", "PortEdgesTest", "WaterEdgesTest", "SillEdgesTest", "RouteEdgesTest",
        "StatusEdgesTest"};
    private static final Path SOURCE = Path.of("src/main/java/SillHours.java");
    private static final Path CLASSES = Path.of("out/breaks");
    private static final String[][] SWAPS = {{" < ", " <= "}, {" <= ", " < "}, {" > ", " >= "}, {" >= ", " > "}, {" == ", " != "},
        {" != ", " == "}, {" && ", " || "}, {" || ", " && "}, {" + ", " - "}, {" - ", " + "}, {" * ", " + "}, {" / ", " % "},
        {" % ", " / "}, {"Math.max", "Math.min"}, {"Math.min", "Math.max"}, {"true", "false"}, {"false", "true"}, {"(!", "("},
        {" !", " "}, {"++", "--"}, {">>>", ">>"}, {"(-", "("}, {" -", " "}};
    private static final Pattern NUMBER = Pattern.compile("(?<![\\w.])\\d+(?!\\w)");
    private static final Pattern STATEMENT = Pattern.compile("^(\\s+)(?!return|break|private|static|final|int |boolean )\\S.*;$");

    private static final Set<String> SENTENCES = new ConcurrentSkipListSet<>();
    private static final Set<String> SEEN = new ConcurrentSkipListSet<>();

    private record Break(int line, String from, String to) { }

    private static List<Break> allBreaks(List<String> lines) {
        List<Break> all = new ArrayList<>();
        for (int i = 0; i < lines.size(); i++) {
            String line = lines.get(i);
            if (line.trim().startsWith("*") || line.trim().startsWith("/*") || line.trim().startsWith("//")) {
                continue;
            }
            for (String[] swap : SWAPS) {
                for (int at = line.indexOf(swap[0]); at >= 0; at = line.indexOf(swap[0], at + 1)) {
                    all.add(new Break(i, line, line.substring(0, at) + swap[1] + line.substring(at + swap[0].length())));
                }
            }
            Matcher number = NUMBER.matcher(line);
            while (number.find()) {
                for (int by = -1; by <= 1; by += 2) {
                    String other = Long.toString(Long.parseLong(number.group()) + by);
                    all.add(new Break(i, line, line.substring(0, number.start()) + other + line.substring(number.end())));
                }
            }
            if (STATEMENT.matcher(line).matches()) {
                all.add(new Break(i, line, ""));
            }
        }
        return all;
    }

    private static boolean compiles(String source, Path into) throws Exception {
        JavaCompiler compiler = ToolProvider.getSystemJavaCompiler();
        JavaFileObject file = new SimpleJavaFileObject(URI.create("string:///SillHours.java"), JavaFileObject.Kind.SOURCE) {
            @Override
            public CharSequence getCharContent(boolean ignoreErrors) {
                return source;
            }
        };
        List<String> options = List.of("-nowarn", "-d", into.toString());
        return compiler.getTask(new StringWriter(), null, null, options, null, List.of(file)).call();
    }

    private static Object ask(Object of, Class<?> kind, String method) throws Exception {
        Method found = kind.getDeclaredMethod(method);
        found.setAccessible(true);
        return found.invoke(of);
    }

    /** Runs a boundary test on the classes at these places; the sentences that it finds broken. */
    private static Set<String> brokenIn(String test, URL[] path) {
        Set<String> broken = new TreeSet<>();
        try (URLClassLoader loader = new URLClassLoader(path, ClassLoader.getPlatformClassLoader())) {
            Object checks = ask(null, loader.loadClass(test), "run");
            for (Object sentence : (Set<?>) ask(checks, checks.getClass(), "brokenSentences")) {
                broken.add(sentence.toString());
            }
            for (Object sentence : (Set<?>) ask(checks, checks.getClass(), "allSentences")) {
                SENTENCES.add(sentence.toString());
            }
        } catch (Throwable thrown) {
            broken.add("thrown");
        }
        return broken;
    }

    private static Set<String> brokenBy(Path classes) throws Exception {
        URL[] path = {classes.toUri().toURL(), CLASSES.toUri().toURL()};
        Set<String> broken = new ConcurrentSkipListSet<>();
        Thread thread = new Thread(() -> {
            for (String test : TESTS) {
                broken.addAll(brokenIn(test, path));
            }
        });
        thread.setDaemon(true);
        thread.start();
        thread.join(60000);
        if (thread.isAlive()) {
            broken.add("does not end");
        }
        return broken;
    }

    private static Set<String> tryOne(List<String> lines, Break one, int number) throws Exception {
        List<String> changed = new ArrayList<>(lines);
        changed.set(one.line(), one.to());
        Path into = Files.createDirectories(CLASSES.resolveSibling("break" + number));
        return compiles(String.join("\n", changed), into) ? brokenBy(into) : Set.of("does not compile");
    }

    public static void main(String[] args) throws Exception {
        List<String> lines = Files.readAllLines(SOURCE);
        List<Break> all = allBreaks(lines);
        PrintStream out = System.out;
        System.setOut(new PrintStream(OutputStream.nullOutputStream()));
        AtomicInteger unseen = new AtomicInteger();
        AtomicInteger tried = new AtomicInteger();
        ExecutorService workers = Executors.newFixedThreadPool(Runtime.getRuntime().availableProcessors());
        for (int i = 0; i < all.size(); i++) {
            int number = i;
            workers.submit(() -> {
                try {
                    Break one = all.get(number);
                    Set<String> broken = tryOne(lines, one, number);
                    tried.incrementAndGet();
                    SEEN.addAll(broken);
                    if (broken.isEmpty()) {
                        unseen.incrementAndGet();
                        out.println((one.line() + 1) + ": " + one.from().trim() + "  =>  " + one.to().trim());
                    }
                } catch (Exception failed) {
                    out.println(number + ": " + failed);
                }
            });
        }
        workers.shutdown();
        workers.awaitTermination(2, TimeUnit.HOURS);
        out.println(tried + " breaks, " + unseen + " unseen");
        SENTENCES.removeAll(SEEN);
        for (String sentence : SENTENCES) {
            out.println("broken by none: " + sentence);
        }
        System.exit(0);
    }
}
