import java.io.IOException;
import java.lang.reflect.Member;
import java.lang.reflect.Modifier;
import java.net.URL;
import java.net.URLClassLoader;
import java.nio.file.Files;
import java.nio.file.Path;
import java.util.ArrayList;
import java.util.List;
import java.util.regex.Matcher;
import java.util.regex.Pattern;
import java.util.stream.Stream;
import javax.tools.ToolProvider;

/** README.md: its examples compile and answer as they say, and it names all that there is. */
public final class ReadmeTest {
    private static final Path FILE = Path.of("README.md");
    private static final Path TESTS = Path.of("src/test/java");
    private static final Pattern EXAMPLE = Pattern.compile("(?s)```java\n(.*?)```");
    /** A call, with the answer as the first word of its comment. */
    private static final Pattern ANSWERED = Pattern.compile("(w\\..*); *// (-?\\d+)\\b.*");

    private final Checks checks = new Checks();
    private final String page;

    private ReadmeTest() throws IOException {
        page = Files.readString(FILE);
    }

    public static void main(String[] args) throws IOException, ReflectiveOperationException {
        ReadmeTest test = new ReadmeTest();
        test.examples();
        test.face();
        test.testFiles();
        test.checks.end();
    }

    private void examples() throws IOException, ReflectiveOperationException {
        Path folder = Files.createTempDirectory("readme");
        Matcher example = EXAMPLE.matcher(page);
        int number = 0;
        while (example.find()) {
            number++;
            answers(folder, "Example" + number, example.group(1).split("\n"));
        }
        checks.due("examples", number, 2);
        remove(folder);
    }

    private void answers(Path folder, String name, String[] lines) throws IOException, ReflectiveOperationException {
        List<String> calls = new ArrayList<>();
        List<Long> due = new ArrayList<>();
        StringBuilder body = new StringBuilder();
        for (String line : lines) {
            Matcher answered = ANSWERED.matcher(line);
            checks.hold("an answer in " + line, !line.startsWith("w.") || answered.matches());
            if (answered.matches()) {
                calls.add(answered.group(1));
                due.add(Long.valueOf(answered.group(2)));
                body.append("answers.add((long) ").append(answered.group(1)).append(");\n");
            } else {
                body.append(line).append('\n');
            }
        }
        List<?> got = run(folder, name, body);
        for (int i = 0; i < calls.size(); i++) {
            checks.due(name + ": " + calls.get(i), (Long) got.get(i), due.get(i));
        }
    }

    /** The example's lines as a program of its own, which hands back the answers. */
    private static List<?> run(Path folder, String name, StringBuilder body)
            throws IOException, ReflectiveOperationException {
        Path file = folder.resolve(name + ".java");
        Files.writeString(file, "public final class " + name + " { public static java.util.List<Long> run() {\n"
                + "java.util.List<Long> answers = new java.util.ArrayList<>();\n" + body + "return answers; } }\n");
        String path = System.getProperty("java.class.path");
        int failed = ToolProvider.getSystemJavaCompiler().run(null, null, null, "-cp", path, "-d",
                folder.toString(), file.toString());
        if (failed != 0) {
            throw new IllegalStateException(name + " does not compile");
        }
        try (URLClassLoader loader = new URLClassLoader(new URL[] {folder.toUri().toURL()})) {
            return (List<?>) loader.loadClass(name).getMethod("run").invoke(null);
        }
    }

    private static void remove(Path folder) throws IOException {
        try (Stream<Path> files = Files.list(folder)) {
            for (Path file : files.toList()) {
                Files.delete(file);
            }
        }
        Files.delete(folder);
    }

    private void face() {
        List<Member> members = new ArrayList<>(List.of(PadeWorkbench.class.getDeclaredMethods()));
        members.addAll(List.of(PadeWorkbench.class.getDeclaredFields()));
        for (Member member : members) {
            if (Modifier.isPublic(member.getModifiers())) {
                names(member.getName());
            }
        }
    }

    private void testFiles() throws IOException {
        List<String> there = new ArrayList<>();
        try (Stream<Path> files = Files.list(TESTS)) {
            for (Path file : files.toList()) {
                there.add(file.getFileName().toString().replace(".java", ""));
            }
        }
        for (String name : there) {
            names(name);
        }
        Matcher named = Pattern.compile("`(\\w+(?:Test|Edges))`").matcher(page);
        while (named.find()) {
            checks.hold("there is " + named.group(1), there.contains(named.group(1)));
        }
    }

    private void names(String name) {
        checks.hold("README.md names " + name, page.contains("`" + name + "`") || page.contains("`@" + name + "`"));
    }
}
