import java.io.IOException;
import java.nio.file.Files;
import java.nio.file.Path;
import java.util.ArrayList;
import java.util.HashMap;
import java.util.LinkedHashMap;
import java.util.List;
import java.util.Map;
import java.util.Set;

/** The document's sections (without the signatures of the methods), and what the tests have quoted of them. It is read from the project's folder. */
final class Document {
    private static final Path PLACE = Path.of("../shared/DOC.md");
    /** The parts of "Description" have no marks of a heading. */
    private static final Set<String> PARTS = Set.of("Lines and words", "Breaking lines", "Pages", "Texts", "Undo", "Sheets", "Errors");

    private final Map<String, String> sections = new LinkedHashMap<>();
    private final Map<String, boolean[]> quoted = new HashMap<>();

    Document() throws IOException {
        String section = "";
        for (String line : Files.readAllLines(PLACE)) {
            if (line.startsWith("## ")) {
                section = line.substring(3).replaceAll(":.*", "");
            } else if (PARTS.contains(line.trim())) {
                section = line.trim();
            } else if (line.startsWith("Examples: ")) {
                section = "Examples";
            } else if (!line.startsWith("`") && !line.startsWith("----")) {
                String more = line.startsWith("- ") ? line.substring(2) : line;
                sections.merge(section, more + (line.isBlank() || line.startsWith("- ") ? "\n" : " "), String::concat);
            }
        }
        sections.replaceAll((name, text) -> text.replaceAll(" +", " ").replaceAll(" ?\n[ \n]*", "\n"));
        sections.forEach((name, text) -> quoted.put(name, new boolean[text.length()]));
    }

    /** Whether the section has this sentence, or part of a sentence; it counts as quoted then. */
    boolean says(String section, String sentence) {
        int from = sections.getOrDefault(section, "").indexOf(sentence);
        for (int at = from; from >= 0 && at < from + sentence.length(); at++) {
            quoted.get(section)[at] = true;
        }
        return from >= 0;
    }

    /** The sentences of a section of which nothing was quoted. */
    List<String> unquoted(String section) {
        List<String> all = new ArrayList<>();
        String text = sections.getOrDefault(section, "");
        int from = 0;
        for (int to = 1; to <= text.length(); to++) {
            if (to == text.length() || text.charAt(to) == '\n' || text.startsWith(". ", to - 1)) {
                if (!hasQuote(section, from, to) && !text.substring(from, to).isBlank()) {
                    all.add(text.substring(from, to).trim());
                }
                from = to;
            }
        }
        return all;
    }

    private boolean hasQuote(String section, int from, int to) {
        for (int at = from; at < to; at++) {
            if (quoted.get(section)[at]) {
                return true;
            }
        }
        return false;
    }

    Set<String> names() {
        return sections.keySet();
    }

    /** The whole section, in which a line break ends a paragraph or an item of a list. */
    String text(String section) {
        return sections.getOrDefault(section, "");
    }
}
