import java.io.IOException;
import java.nio.file.Files;
import java.nio.file.Path;
import java.util.ArrayList;
import java.util.LinkedHashMap;
import java.util.List;
import java.util.Map;

/**
 * The document's sections, each as the list of its clauses (what stands between . ; and line ends),
 * and the lines of the public face.
 */
final class Document {
    private static final Path FILE = Path.of("../shared/DOC.md");

    private final Map<String, List<String>> sections = new LinkedHashMap<>();
    private final List<String> face = new ArrayList<>();

    Document() throws IOException {
        String section = "";
        boolean code = false;
        for (String line : Files.readAllLines(FILE)) {
            boolean fence = line.startsWith("```");
            code ^= fence;
            if (line.startsWith("## ")) {
                section = line.substring(3).replaceAll(":.*", "");
            } else if (line.matches("[A-Z][A-Z -]+")) {
                section = line;
            } else if (code && !fence) {
                face.add(line.trim());
            } else if (!fence && !line.matches("#.*|`.*|----.*|")) {
                sections.computeIfAbsent(section, name -> new ArrayList<>()).addAll(clauses(line));
            }
        }
    }

    private static List<String> clauses(String line) {
        String plain = line.replaceAll("^- ", "").replace("`", "");
        List<String> found = new ArrayList<>();
        for (String clause : plain.split("(?<=[^.]\\.\\)?) |; |;$")) {
            found.add(clause.replaceAll("\\.$", ""));
        }
        return found;
    }

    Map<String, List<String>> sections() {
        return sections;
    }

    List<String> face() {
        return face;
    }
}
