import java.io.IOException;
import java.nio.file.Files;
import java.nio.file.Path;
import java.util.ArrayList;
import java.util.BitSet;
import java.util.LinkedHashMap;
import java.util.List;
import java.util.Map;

/** The sentences of the document by sections, and which of them have been quoted by a test. */
final class Document {
    /** What names nothing that a call could answer, or has a test of its own: the signatures, the examples. */
    private static final String PASSED_OVER = "`.*|----.*|[A-Z ]+|Examples: .*|[0-9]\\. .*|The constants:"
        + "|The constructor and the methods follow.*";

    private static final class Section {
        String text = "";
        final BitSet quoted = new BitSet();
    }

    private final Map<String, Section> sections = new LinkedHashMap<>();

    Document(Path file) throws IOException {
        Section section = new Section();
        for (String line : Files.readAllLines(file)) {
            if (line.startsWith("## ")) {
                section = new Section();
                sections.put(nameOf(line), section);
            } else if (!line.matches(PASSED_OVER)) {
                section.text = plain(section.text + " " + line);
            }
        }
    }

    /** "## Promise 8: put" is called Promise 8. */
    static String nameOf(String heading) {
        return heading.substring(3).split(":")[0].trim();
    }

    private static String plain(String text) {
        return text.replaceAll("\\s+", " ").trim();
    }

    /** Whether the section has this quote, just once; it is known as quoted then. */
    boolean quote(String name, String quote) {
        Section section = sections.get(name);
        String words = plain(quote);
        if (section == null || words.isEmpty()) {
            return false;
        }
        int start = section.text.indexOf(words);
        if (start < 0 || section.text.indexOf(words, start + 1) >= 0) {
            return false;
        }
        section.quoted.set(start, start + words.length());
        return true;
    }

    /** The passages of these sections that no test has quoted. */
    List<String> unquoted(String names) {
        List<String> passages = new ArrayList<>();
        sections.forEach((name, section) -> {
            StringBuilder rest = new StringBuilder();
            for (int i = 0; name.matches(names) && i < section.text.length(); i++) {
                rest.append(section.quoted.get(i) ? '\n' : section.text.charAt(i));
            }
            for (String passage : rest.toString().split("\n+")) {
                if (passage.matches(".*[A-Za-z0-9].*")) {
                    passages.add(name + ": " + passage.trim());
                }
            }
        });
        return passages;
    }

    int sectionsNamed(String names) {
        return (int) sections.keySet().stream().filter(name -> name.matches(names)).count();
    }
}
