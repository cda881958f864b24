import java.util.ArrayList;
import java.util.HashMap;
import java.util.List;
import java.util.Map;

/** Holds each answer against a sentence of the document, and tells which sentences none was held against. */
final class Sentences {
    /** What names no boundary case: the summary, the headings of the interface, what is left free. */
    private static final String[] NO_BOUNDS = {"A ferry of ropes:", "Ahead of the calls"};
    private static final String[] NO_BOUNDS_SECTIONS = {"The public face", "Not promised"};

    private final Check check;
    private final Document document;
    private final Map<String, List<String>> quoted = new HashMap<>();
    private String now = "";
    private int answers = 1;

    Sentences(Check check, Document document) {
        this.check = check;
        this.document = document;
    }

    /** From here on answers are held against this sentence (or this part of one). */
    void of(String section, String quote) {
        close();
        now = section + " \"" + quote + "\"";
        answers = 0;
        quoted.computeIfAbsent(section, s -> new ArrayList<>()).add(quote);
        if (document.isThere()) {
            check.holds("the document does not say " + now, document.says(section, quote));
        }
    }

    void promise(int number, String quote) {
        of("Promise " + number, quote);
    }

    void term(String quote) {
        of("Terms", quote);
    }

    void due(String call, long got, long want) {
        answers++;
        check.due(now + ": " + call, got, want);
    }

    void holds(String what, boolean is) {
        answers++;
        check.holds(now + ": " + what, is);
    }

    private void close() {
        check.holds(now + ": nothing was asked", answers > 0);
    }

    void end() {
        close();
        for (String section : document.sectionNames()) {
            for (String sentence : document.sentences(section)) {
                check.holds(section + " \"" + sentence + "\": no test holds to it",
                        namesNoBounds(section, sentence) || isQuoted(section, sentence));
            }
        }
    }

    private static boolean namesNoBounds(String section, String sentence) {
        for (String free : NO_BOUNDS_SECTIONS) {
            if (section.equals(free)) {
                return true;
            }
        }
        for (String free : NO_BOUNDS) {
            if (sentence.startsWith(free)) {
                return true;
            }
        }
        return false;
    }

    private boolean isQuoted(String section, String sentence) {
        return quoted.getOrDefault(section, List.of()).stream().anyMatch(sentence::contains);
    }
}
