import java.io.IOException;
import java.nio.file.Files;
import java.nio.file.Path;
import java.util.regex.Matcher;
import java.util.regex.Pattern;

/** What can be seen of LANGUAGE.md in the source's words; run from the project's folder. */
public final class LanguageTest {
    private static final Path SOURCE = Path.of("src/main/java/GorgeRopes.java");
    private static final int MOST_LINES = 60;

    private static final String[] NO_WORDS = {"throw", "throws", "try", "catch", "finally",
        "synchronized", "assert", "import", "package", "var", "protected", "volatile", "transient",
        "native", "strictfp", "hashCode", "toString", "values", "stream", "Thread", "Object"};
    private static final String[] NO_PATTERNS = {"->", "::", "\\w+Exact\\b", "static\\s*\\{",
        "new\\s+\\w+\\([^)]*\\)\\s*\\{", "System\\.(?!arraycopy)", "Math\\.(?!max|min|abs)",
        "Integer\\.(?!bitCount|MIN_VALUE|MAX_VALUE)", "while\\s*\\(\\s*true", "for\\s*\\(\\s*;"};

    private static final Check CHECK = new Check("LanguageTest");

    public static void main(String[] args) throws IOException {
        String source = Files.readString(SOURCE);
        String bare = source.replaceAll("(?s)/\\*.*?\\*/", "").replaceAll("//[^\n]*", "")
                .replaceAll("'.'", "0");
        for (String word : NO_WORDS) {
            CHECK.holds("the word " + word, !Pattern.compile("\\b" + word + "\\b").matcher(bare).find());
        }
        for (String pattern : NO_PATTERNS) {
            Matcher m = Pattern.compile(pattern).matcher(bare);
            CHECK.holds("the pattern " + pattern, !m.find());
        }
        CHECK.holds("a sign above 127", source.chars().allMatch(c -> c < 128));
        methodsAreShort(source.split("\n"));
        CHECK.end();
    }

    /** A method begins with a line that ends in ") {" at a member's depth, and ends with its }. */
    private static void methodsAreShort(String[] lines) {
        Pattern head = Pattern.compile("^(    |        )[^ ].*\\) \\{$");
        for (int i = 0; i < lines.length; i++) {
            Matcher m = head.matcher(lines[i]);
            if (!m.matches() || lines[i].matches("^ *(if|for|while|switch) .*")) {
                continue;
            }
            int end = i;
            while (end < lines.length && !lines[end].equals(m.group(1) + "}")) {
                end++;
            }
            CHECK.holds("long: " + lines[i].trim(), end - i < MOST_LINES);
        }
    }
}
