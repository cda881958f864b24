import com.sun.source.tree.CompilationUnitTree;
import com.sun.source.util.JavacTask;
import com.sun.source.util.Trees;
import java.io.IOException;
import java.nio.file.Files;
import java.nio.file.Path;
import java.util.ArrayList;
import java.util.List;
import java.util.regex.Pattern;
import javax.tools.JavaCompiler;
import javax.tools.StandardJavaFileManager;
import javax.tools.ToolProvider;

/** The rules of LANGUAGE.md that can be seen from the source; run from the project's folder. */
public final class LanguageTest {
    private static final Path SOURCE = Path.of("src/main/java/GorgeRopes.java");
    /** What rule 3 and 6 leave out, and no rule of the tree below would see. */
    private static final String[] NO_WORDS = {"import", "package", "var", "volatile", "transient",
        "native", "strictfp", "Object", "double", "float"};

    public static void main(String[] args) throws IOException {
        Check check = new Check("LanguageTest");
        words(check, Files.readString(SOURCE));
        tree(check);
        check.end();
    }

    private static void words(Check check, String source) {
        String bare = source.replaceAll("(?s)/\\*.*?\\*/", "").replaceAll("//[^\n]*", "");
        for (String word : NO_WORDS) {
            check.holds("the word " + word, !Pattern.compile("\\b" + word + "\\b").matcher(bare).find());
        }
        check.holds("rule 4: a sign above 127", source.chars().allMatch(c -> c < 128));
    }

    private static void tree(Check check) throws IOException {
        JavaCompiler compiler = ToolProvider.getSystemJavaCompiler();
        check.holds("there is no compiler to read the source with", compiler != null);
        if (compiler == null) {
            return;
        }
        try (StandardJavaFileManager files = compiler.getStandardFileManager(null, null, null)) {
            JavacTask task = (JavacTask) compiler.getTask(null, files, null,
                    List.of("--release", "17"), null, files.getJavaFileObjects(SOURCE));
            List<CompilationUnitTree> units = new ArrayList<>();
            task.parse().forEach(units::add);
            task.analyze();
            for (CompilationUnitTree unit : units) {
                LanguageRules rules = new LanguageRules(check, Trees.instance(task), unit);
                rules.scan(unit, null);
                rules.end();
            }
        }
    }
}
