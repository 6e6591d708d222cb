import java.io.IOException;
import java.nio.file.Files;
import java.nio.file.Path;
import java.util.ArrayList;
import java.util.LinkedHashMap;
import java.util.List;
import java.util.Map;

/** The document's sections, and which of their sentences have cases. Tests are run from the project's folder. */
final class Document {
    private static final Path FILE = Path.of("../shared/DOC.md");

    private final Map<String, String> sections = new LinkedHashMap<>();

    Document() throws IOException {
        for (String part : Files.readString(FILE).split("(?m)^## ")) {
            int end = part.indexOf('\n');
            if (end >= 0) {
                sections.put(part.substring(0, end).replaceAll(":.*", ""), plain(part.substring(end)));
            }
        }
    }

    /** Without a promise's signature, marks of blocks and paragraphs, and what the interface says ahead of calls. */
    private static String plain(String text) {
        return text.replaceAll("\\s+", " ").trim().replaceAll("^`[^`]*`: ", "").replaceAll("```(text )?", "")
            .replaceAll("======== \\d ", "").replaceAll("(RESULTS|MONEY)\\. ", "")
            .replaceAll("Ahead of the calls .*", "").replaceAll(" +", " ").trim();
    }

    boolean has(Edge.Words words) {
        return sections.getOrDefault(words.section, "").contains(words.text);
    }

    /** Sentences, which end with a dot or a semicolon, that no words of cases stand in or go over. */
    List<String> sentencesWithoutCases(String section, List<Edge.Words> named) {
        String text = sections.getOrDefault(section, "");
        List<String> without = new ArrayList<>();
        int from = 0;
        for (String sentence : text.split("(?<=[^.][.;]) ")) {
            int to = from + sentence.length();
            if (!hasWords(section, from, to, named)) {
                without.add(sentence);
            }
            from = to + 1;
        }
        return without;
    }

    private boolean hasWords(String section, int from, int to, List<Edge.Words> named) {
        for (Edge.Words words : named) {
            int at = words.section.equals(section) ? sections.get(section).indexOf(words.text) : -1;
            if (at >= 0 && at < to && at + words.text.length() > from) {
                return true;
            }
        }
        return false;
    }
}
