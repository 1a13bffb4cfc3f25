import java.lang.reflect.Constructor;
import java.lang.reflect.Field;
import java.lang.reflect.Method;
import java.lang.reflect.Modifier;
import java.nio.file.Files;
import java.nio.file.Path;
import java.util.Set;
import java.util.TreeSet;
import java.util.regex.Matcher;
import java.util.regex.Pattern;

/** The public face, and those rules for the program's Java that a look at the class and its source can show. */
public final class FaceTest {
    private static final Checks CHECKS = new Checks();
    private static final String[] CALLS = {"feed 5", "end 1", "port 0", "longer 1", "second 1", "sill 1", "ship 0", "route 0",
        "place 0", "fault 0", "count 1", "turns 1", "turn 3", "water 2", "above 3", "rise 3", "ebb 3", "hours 2", "hour 4",
        "minutes 2", "good 3", "note 3", "stops 1", "leg 3", "arrive 3", "pass 4", "waits 3", "start 3", "letter 3", "same 2",
        "status 0"};

    private static void face() {
        Class<?> face = SillHours.class;
        CHECKS.due("public final", face.getModifiers() & (Modifier.PUBLIC | Modifier.FINAL), Modifier.PUBLIC | Modifier.FINAL);
        Set<String> found = new TreeSet<>();
        Set<String> hidden = new TreeSet<>();
        for (Method method : face.getDeclaredMethods()) {
            boolean ints = method.getReturnType() == int.class;
            for (Class<?> type : method.getParameterTypes()) {
                ints &= type == int.class;
            }
            if (Modifier.isPrivate(method.getModifiers())) {
                hidden.add(method.getName());
            } else {
                found.add(method.getName() + " " + method.getParameterCount() + (ints ? "" : " not ints")
                    + (method.getModifiers() == Modifier.PUBLIC ? "" : " not public alone"));
            }
        }
        CHECKS.due("the calls", found.toString(), new TreeSet<>(Set.of(CALLS)).toString());
        for (String name : hidden) {
            CHECKS.due("private " + name + " bears the name of a call", isCall(name) ? 1 : 0, 0);
        }
        for (Field field : face.getDeclaredFields()) {
            boolean isPrivate = Modifier.isPrivate(field.getModifiers());
            CHECKS.due(field.getName() + " is private or BAD", isPrivate || field.getName().equals("BAD") ? 1 : 0, 1);
        }
        Constructor<?>[] makers = face.getDeclaredConstructors();
        CHECKS.due("constructors", makers.length, 1);
        CHECKS.due("its parameters", makers[0].getParameterCount(), 0);
        CHECKS.due("BAD", SillHours.BAD, -9999);
    }

    private static boolean isCall(String name) {
        for (String call : CALLS) {
            if (call.startsWith(name + " ")) {
                return true;
            }
        }
        return false;
    }

    private static void classesInside() {
        Class<?>[] inside = SillHours.class.getDeclaredClasses();
        CHECKS.due("at most twelve classes", inside.length + 1 <= 12 ? 1 : 0, 1);
        for (Class<?> one : inside) {
            CHECKS.due(one + " is static", Modifier.isStatic(one.getModifiers()) ? 1 : 0, 1);
            CHECKS.due(one + " is not public", Modifier.isPublic(one.getModifiers()) ? 1 : 0, 0);
            for (Field field : one.getDeclaredFields()) {
                boolean bad = Modifier.isStatic(field.getModifiers()) && !Modifier.isFinal(field.getModifiers());
                CHECKS.due(one + "." + field.getName() + " is static and not final", bad ? 1 : 0, 0);
            }
            for (Method method : one.getDeclaredMethods()) {
                CHECKS.due(method + " takes at most seven", method.getParameterCount() <= 7 ? 1 : 0, 1);
                CHECKS.due(method + " bears the name of a call", isCall(method.getName()) ? 1 : 0, 0);
            }
        }
    }

    private static void source() throws Exception {
        String text = Files.readString(Path.of("src/main/java/SillHours.java"));
        String code = text.replaceAll("(?s)/\\*.*?\\*/", "").replaceAll("//[^\n]*", "").replaceAll("\"[^\"\n]*\"", "\"\"");
        String[] forbidden = {"\\b(throw|throws|try|catch|finally|synchronized|assert|package|protected|hashCode|random)\\b",
            "\\w+Exact\\b", "->", "::", "\\bstatic \\{", "\\bimport (?!java\\.util\\.(ArrayList|List|Arrays|Iterator);)",
            "\\bSystem\\.(?!arraycopy\\b)", "\\bArrays\\.(?!(copyOf|copyOfRange|fill)\\b)", "\\bString\\.",
            "\\b(Thread|Object|Random|Class|Double|Float|Character|Boolean|Byte|Short)\\b"};
        for (String words : forbidden) {
            Matcher found = Pattern.compile(words).matcher(code);
            CHECKS.due("in the source", found.find() ? found.group() : "nothing of " + words, "nothing of " + words);
        }
        CHECKS.due("signs 1 to 127 alone", text.chars().allMatch(sign -> sign > 0 && sign < 128) ? 1 : 0, 1);
        longMethods(text.split("\n"));
    }

    private static void longMethods(String[] lines) {
        int from = -1;
        String indent = "";
        for (int i = 0; i < lines.length; i++) {
            Matcher head = Pattern.compile("^(    |        )(?! )(?!.*\\bclass\\b)[^=;]*\\) \\{$").matcher(lines[i]);
            if (head.find()) {
                from = i;
                indent = head.group(1);
            } else if (from >= 0 && lines[i].equals(indent + "}")) {
                CHECKS.due("at most sixty lines: " + lines[from].trim(), i - from < 60 ? 1 : 0, 1);
                from = -1;
            }
        }
    }

    public static void main(String[] args) throws Exception {
        face();
        classesInside();
        source();
        CHECKS.close();
    }
}
