import java.io.IOException;
import java.lang.reflect.Field;
import java.lang.reflect.Method;
import java.lang.reflect.Modifier;
import java.nio.file.Files;
import java.nio.file.Path;
import java.util.ArrayList;
import java.util.HashSet;
import java.util.List;
import java.util.Set;
import java.util.regex.Matcher;
import java.util.regex.Pattern;

/** What of LANGUAGE.md can be seen in the words of the file and in the compiled classes. */
public final class LanguageTest {
    private static final Path FILE = Path.of("src/main/java/PadeWorkbench.java");
    private static final String[] FORBIDDEN = {
        "\\bthrow\\b", "\\bthrows\\b", "\\btry\\b", "\\bcatch\\b", "\\bsynchronized\\b",
        "\\bassert\\b", "->", "::", "\\bpackage\\b", "\\bprotected\\b", "\\bdouble\\b",
        "\\bfloat\\b", "Exact\\b", "\\bhashCode\\b", "\\bvar\\b", "\"", "\\bvolatile\\b",
        "System\\.(?!arraycopy)", "Arrays\\.(?!fill|copyOf)", "\\bThread\\b", "\\bRandom\\b"
    };

    private final Checks checks = new Checks();
    private final String source;
    private final List<Class<?>> classes = new ArrayList<>();

    private LanguageTest() throws IOException {
        String text = Files.readString(FILE);
        source = text.replaceAll("(?s)/\\*.*?\\*/", "").replaceAll("//[^\n]*", "");
        checks.hold("the file has plain characters", text.chars().allMatch(c -> c == 10 || c >= 32 && c < 127));
        classes.add(PadeWorkbench.class);
        classes.addAll(List.of(PadeWorkbench.class.getDeclaredClasses()));
    }

    public static void main(String[] args) throws IOException {
        LanguageTest test = new LanguageTest();
        test.words();
        test.nestedClasses();
        test.members();
        test.names();
        test.methodLengths();
        test.whereObjectsAreMade();
        test.checks.end();
    }

    private void words() {
        for (String forbidden : FORBIDDEN) {
            checks.hold("no " + forbidden, !Pattern.compile(forbidden).matcher(source).find());
        }
        Matcher imports = Pattern.compile("import ([^;]*);").matcher(source);
        while (imports.find()) {
            checks.hold("import " + imports.group(1), imports.group(1).equals("java.util.Arrays"));
        }
        int divisions = source.split(" % ", -1).length - 1;
        checks.due("places that divide: by the prime behind a test, by 2 and more", divisions, 2);
    }

    private void nestedClasses() {
        checks.hold("at most twelve classes", classes.size() <= 12);
        for (Class<?> nested : PadeWorkbench.class.getDeclaredClasses()) {
            checks.hold(nested + " is static", Modifier.isStatic(nested.getModifiers()));
            checks.hold(nested + " is not public", !Modifier.isPublic(nested.getModifiers()));
        }
    }

    private void members() {
        for (Class<?> type : classes) {
            int fields = 0;
            for (Field field : type.getDeclaredFields()) {
                boolean fixed = Modifier.isStatic(field.getModifiers());
                fields += fixed ? 0 : 1;
                checks.hold(field + " is final", !fixed || Modifier.isFinal(field.getModifiers()));
            }
            checks.hold(type + " has at most twenty fields", fields <= 20);
            for (Method method : type.getDeclaredMethods()) {
                checks.hold(method + " takes at most seven", method.getParameterCount() <= 7);
            }
        }
    }

    private void names() {
        Set<String> face = new HashSet<>();
        for (Method method : PadeWorkbench.class.getDeclaredMethods()) {
            if (Modifier.isPublic(method.getModifiers())) {
                face.add(method.getName());
            }
        }
        for (Class<?> type : classes) {
            for (Method method : type.getDeclaredMethods()) {
                boolean own = type != PadeWorkbench.class || !Modifier.isPublic(method.getModifiers());
                checks.hold(method + " has a name of its own", !own || !face.contains(method.getName()));
            }
        }
    }

    private void methodLengths() {
        String[] lines = source.split("\n", -1);
        for (int i = 0; i < lines.length; i++) {
            Matcher head = Pattern.compile("^( +)[a-z].*\\) \\{$").matcher(lines[i]);
            if (head.find() && head.group(1).length() <= 8 && !lines[i].contains("class ")) {
                int end = i;
                while (end < lines.length - 1 && !lines[end].equals(head.group(1) + "}")) {
                    end++;
                }
                checks.hold("short: " + lines[i].trim(), end - i <= 60);
            }
        }
    }

    /** No call makes an object: all are made where fields begin, but for the undo ring. */
    private void whereObjectsAreMade() {
        for (String line : source.split("\n", -1)) {
            if (line.contains("new ")) {
                boolean field = line.matches(" +private (final )?[A-Za-z]+(\\[\\])* [a-zA-Z]+ = new [^;]*;");
                boolean ring = line.trim().equals("states[i] = new State();");
                checks.hold("made with the object: " + line.trim(), field || ring);
            }
        }
    }
}
