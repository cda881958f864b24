import java.io.IOException;
import java.nio.file.Files;
import java.nio.file.Path;
import java.util.ArrayList;
import java.util.LinkedHashMap;
import java.util.List;
import java.util.Map;

/** The document's sentences by section, so that a test can name the one that it holds to. */
final class Document {
    private static final Path PLACE = Path.of("../shared/DOC.md");

    private final Map<String, List<String>> sections = new LinkedHashMap<>();

    private Document() {
    }

    /** Without the file there are no sections: the tests still ask, but no quote is looked at. */
    static Document read() throws IOException {
        Document document = new Document();
        if (!Files.isRegularFile(PLACE)) {
            System.out.println("no document at " + PLACE + ": quotes are not looked at");
            return document;
        }
        for (String section : Files.readString(PLACE).split("\n## ")) {
            int end = section.indexOf('\n');
            if (end > 0) {
                document.add(section.substring(0, end), section.substring(end));
            }
        }
        return document;
    }

    /** A promise is named by its number alone, the others by their headings. */
    private void add(String heading, String text) {
        String name = heading.startsWith("Promise ") ? heading.replaceAll(":.*", "") : heading.trim();
        String bare = text.replaceAll("(?m)^```.*$", "\n").replaceAll("(?m)^`[^`]*`: ", "")
                .replace("======== ", "");
        List<String> sentences = new ArrayList<>();
        for (String paragraph : bare.split("\n\\s*\n")) {
            for (String sentence : paragraph.trim().split("(?<=[^.\\s][.])\\s+")) {
                if (!sentence.isBlank()) {
                    sentences.add(sentence.trim());
                }
            }
        }
        sections.put(name, sentences);
    }

    boolean isThere() {
        return !sections.isEmpty();
    }

    List<String> sectionNames() {
        return new ArrayList<>(sections.keySet());
    }

    List<String> sentences(String section) {
        return sections.getOrDefault(section, List.of());
    }

    boolean says(String section, String quote) {
        return sentences(section).stream().anyMatch(s -> s.contains(quote));
    }
}
