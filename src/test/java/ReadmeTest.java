import java.io.IOException;
import java.lang.reflect.Method;
import java.lang.reflect.Modifier;
import java.nio.file.Files;
import java.nio.file.Path;
import java.util.ArrayList;
import java.util.Comparator;
import java.util.HashSet;
import java.util.List;
import java.util.Set;
import java.util.regex.Matcher;
import java.util.regex.Pattern;
import java.util.stream.Stream;

/**
 * README.md does as it says: its examples answer what stands behind their //, its programs print it,
 * its commands run. Run from the project's folder; all is tried in a folder of its own.
 */
public final class ReadmeTest {
    private static final Path README = Path.of("README.md");
    private static final Pattern PROGRAM = Pattern.compile("public final class (\\w+) \\{");
    private static final Pattern PRINTED = Pattern.compile("\\s*System\\.out\\.println\\(.*\\);\\s*// (.*)");
    private static final Pattern ANSWERED = Pattern.compile("(x\\.(\\w+)\\(.*\\));\\s*// ([^:]+)(: .*)?");

    private static final Check CHECK = new Check("ReadmeTest");

    private final List<String> lines;
    private final Path folder;
    private final Set<String> shown = new HashSet<>();
    /** What the program that stands ahead of commands prints, until the commands have been run. */
    private final List<String> toPrint = new ArrayList<>();
    private final StringBuilder examples = new StringBuilder();

    private ReadmeTest(List<String> lines, Path folder) {
        this.lines = lines;
        this.folder = folder;
    }

    public static void main(String[] args) throws IOException, InterruptedException {
        Path folder = Files.createTempDirectory("readme");
        try {
            copySources(folder);
            new ReadmeTest(Files.readAllLines(README), folder).all();
        } finally {
            remove(folder);
        }
        CHECK.end();
    }

    private static void copySources(Path folder) throws IOException {
        try (Stream<Path> files = Files.walk(Path.of("src"))) {
            for (Path file : (Iterable<Path>) files.filter(Files::isRegularFile)::iterator) {
                Path copy = folder.resolve(file);
                Files.createDirectories(copy.getParent());
                Files.copy(file, copy);
            }
        }
    }

    private static void remove(Path folder) throws IOException {
        try (Stream<Path> files = Files.walk(folder)) {
            for (Path file : (Iterable<Path>) files.sorted(Comparator.reverseOrder())::iterator) {
                Files.delete(file);
            }
        }
    }

    private void all() throws IOException, InterruptedException {
        for (int i = 0; i < lines.size(); i++) {
            String fence = lines.get(i);
            if (!fence.startsWith("```")) {
                continue;
            }
            int end = i + 1;
            while (end < lines.size() && !lines.get(end).equals("```")) {
                end++;
            }
            CHECK.holds(place(i) + "a block with no end", end < lines.size());
            CHECK.holds(place(i) + "an empty block", end > i + 1);
            block(fence, i + 1, end);
            i = end;
        }
        runExamples();
        allCallsAreShown();
        CHECK.holds("README.md does not tell .ci/run", lines.contains("    .ci/run"));
        CHECK.holds(".ci/run cannot be run", Files.isExecutable(Path.of(".ci/run")));
    }

    private static String place(int i) {
        return "README.md, line " + (i + 1) + ": ";
    }

    private void block(String fence, int begin, int end) throws IOException, InterruptedException {
        if (fence.equals("```sh")) {
            runCommands(begin, end);
            return;
        }
        CHECK.holds(place(begin - 1) + "a block of no kind that is tried", fence.equals("```java"));
        Matcher program = PROGRAM.matcher(String.join("\n", lines.subList(begin, end)));
        if (program.lookingAt()) {
            keepProgram(program.group(1), begin, end);
        } else {
            addExamples(begin, end);
        }
    }

    // ---- programs and commands

    private void keepProgram(String name, int begin, int end) throws IOException {
        Files.write(folder.resolve(name + ".java"), lines.subList(begin, end));
        toPrint.clear();
        for (int i = begin; i < end; i++) {
            Matcher printed = PRINTED.matcher(lines.get(i));
            if (printed.matches()) {
                toPrint.add(printed.group(1));
            }
        }
        CHECK.holds(place(begin) + "the program prints nothing", !toPrint.isEmpty());
    }

    /** Behind a program the commands print what it says; elsewhere they only have to go well. */
    private void runCommands(int begin, int end) throws IOException, InterruptedException {
        List<String> printed = run("sh", "-e", "-c", String.join("\n", lines.subList(begin, end)));
        if (!toPrint.isEmpty()) {
            CHECK.holds(place(begin) + "printed " + printed + ", due is " + toPrint,
                    printed.equals(toPrint));
        }
        toPrint.clear();
    }

    private List<String> run(String... words) throws IOException, InterruptedException {
        Path told = folder.resolve("told.txt");
        Process process = new ProcessBuilder(words).directory(folder.toFile())
                .redirectErrorStream(true).redirectOutput(told.toFile()).start();
        int code = process.waitFor();
        List<String> printed = Files.readAllLines(told);
        CHECK.holds(String.join(" ", words) + " ended with " + code + "\n" + String.join("\n", printed),
                code == 0);
        return printed;
    }

    // ---- examples

    /** An example's call stands at the beginning of its line; what helps it is indented. */
    private void addExamples(int begin, int end) {
        for (int i = begin; i < end; i++) {
            String line = lines.get(i);
            Matcher answered = ANSWERED.matcher(line);
            if (answered.matches()) {
                String call = answered.group(1);
                shown.add(answered.group(2));
                examples.append("        check.due(\"").append(place(i)).append(call)
                        .append("\", ").append(call).append(", ").append(answered.group(3)).append(");\n");
            } else {
                CHECK.holds(place(i) + "no answer is told", !line.startsWith("x."));
                examples.append("        ").append(line).append('\n');
            }
        }
    }

    private void runExamples() throws IOException, InterruptedException {
        String constants = "NONE = GorgeRopes.NONE, BAD = GorgeRopes.BAD, NOT = GorgeRopes.NOT, "
                + "FULL = GorgeRopes.FULL";
        Files.writeString(folder.resolve("Examples.java"), "final class Examples {\n"
                + "    private static final int " + constants + ";\n\n"
                + "    public static void main(String[] args) {\n"
                + "        Check check = new Check(\"examples of README.md\");\n"
                + examples
                + "        check.end();\n    }\n}\n");
        run("javac", "-d", "examples", "src/main/java/GorgeRopes.java", "src/test/java/Check.java",
                "Examples.java");
        for (String told : run("java", "-cp", "examples", "Examples")) {
            System.out.println(told);
        }
    }

    private void allCallsAreShown() {
        for (Method method : GorgeRopes.class.getDeclaredMethods()) {
            if (Modifier.isPublic(method.getModifiers())) {
                CHECK.holds("README.md has no example of " + method.getName(),
                        shown.contains(method.getName()));
            }
        }
    }
}
