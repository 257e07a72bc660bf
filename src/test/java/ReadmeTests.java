import java.io.File;
import java.io.IOException;
import java.lang.reflect.Method;
import java.lang.reflect.Modifier;
import java.nio.file.Files;
import java.nio.file.Path;
import java.util.ArrayList;
import java.util.List;
import java.util.regex.Matcher;
import java.util.regex.Pattern;

/**
 * Each example of README.md compiles and answers as README.md says: a program prints the text behind its commands,
 * and each call of the other examples answers what stands behind its arrow.
 */
public final class ReadmeTests {
    private static final Path PLACE = Path.of("build/readme");
    private static final String SOURCE = "src/main/java/Tenonyard.java";
    private static final String FENCE = "```";
    private static final String ARROW = "// -> ";
    /** The one line of the examples that asks nothing. */
    private static final String BEGUN = "Tenonyard yard = new Tenonyard();";
    /** A call, and behind its arrow an answer or what it throws, and words on it behind a colon. */
    private static final Pattern ANSWERED = Pattern.compile("(.*\\S);\\s*" + ARROW + "(throws )?(.*?)(: .*)?");

    private static final List<String> EXAMPLES = new ArrayList<>();
    private static String lastPrinted = "";

    public static void main(String[] args) throws IOException, InterruptedException {
        Files.createDirectories(PLACE.resolve(SOURCE).getParent());
        Files.writeString(PLACE.resolve(SOURCE), Files.readString(Path.of(SOURCE)));
        goThrough(Files.readAllLines(Path.of("README.md")));
        runExamples();
        isEachMethodShown();
        Check.end("ReadmeTests");
    }

    private static void goThrough(List<String> lines) throws IOException, InterruptedException {
        String kind = null;
        List<String> block = new ArrayList<>();
        for (String line : lines) {
            if (!line.startsWith(FENCE)) {
                block.add(line);
            } else if (kind == null) {
                kind = line.substring(FENCE.length());
                block.clear();
            } else {
                take(kind, block);
                kind = null;
            }
        }
        Check.yes("each example ends", kind == null);
    }

    private static void take(String kind, List<String> block) throws IOException, InterruptedException {
        switch (kind) {
            case "java" -> takeJava(block);
            case "sh" -> takeCommands(block);
            case "text" -> Check.same("printed", lastPrinted, (Object) String.join("\n", block));
            default -> Check.yes("an example of a known kind, not " + kind, false);
        }
    }

    private static void takeJava(List<String> block) throws IOException {
        Matcher head = Pattern.compile("public class (\\w+) \\{").matcher(block.get(0));
        if (head.matches()) {
            Files.write(PLACE.resolve(head.group(1) + ".java"), block);
        } else {
            EXAMPLES.addAll(block);
        }
    }

    /** The tests' own command runs this program, so it is not run by it. */
    private static void takeCommands(List<String> block) throws IOException, InterruptedException {
        for (String command : block) {
            if (!command.equals(".ci/run")) {
                lastPrinted = printedBy(command.split(" "));
            }
        }
    }

    private static String printedBy(String... command) throws IOException, InterruptedException {
        ProcessBuilder builder = new ProcessBuilder(command).directory(PLACE.toFile());
        Process process = builder.redirectError(ProcessBuilder.Redirect.INHERIT).start();
        String printed = new String(process.getInputStream().readAllBytes()).trim();
        Check.same(String.join(" ", command) + " printed\n" + printed + "\n and", process.waitFor(), 0);
        return printed;
    }

    private static void runExamples() throws IOException, InterruptedException {
        List<String> lines = new ArrayList<>(List.of("import java.util.NoSuchElementException;",
                "public class Examples {", "public static void main(String[] args) {"));
        for (String line : EXAMPLES) {
            Check.yes("an arrow behind " + line, line.contains(ARROW) || line.equals(BEGUN));
            lines.add(line.contains(ARROW) ? asked(line) : line);
        }
        lines.addAll(List.of("Check.end(\"the examples of README.md\");", "}", "}"));
        Files.write(PLACE.resolve("Examples.java"), lines);
        String tests = Path.of("build/project").toAbsolutePath().toString();
        printedBy("javac", "-d", "examples", "-cp", tests, "Examples.java");
        String printed = printedBy("java", "-cp", "examples" + File.pathSeparator + tests, "Examples");
        long due = EXAMPLES.stream().filter(line -> line.contains(ARROW)).count();
        Check.same("the examples", printed, (Object) ("the examples of README.md: " + due + " asked, 0 wrong"));
    }

    /** The same call as a check of its answer. */
    private static String asked(String line) {
        Matcher answered = ANSWERED.matcher(line);
        if (!answered.matches()) {
            Check.yes("a call, an arrow and an answer: " + line, false);
            return line;
        }
        String call = answered.group(1);
        String due = answered.group(3);
        String what = "\"" + call.replace("\"", "\\\"") + "\"";
        if (answered.group(2) != null) {
            return "Check.refused(" + what + ", " + due + ".class, () -> " + call + ");";
        }
        return "Check.same(" + what + ", " + call + ", " + due + ");";
    }

    private static void isEachMethodShown() {
        String text = String.join("\n", EXAMPLES);
        for (Method method : Tenonyard.class.getDeclaredMethods()) {
            if (Modifier.isPublic(method.getModifiers())) {
                Check.yes(method.getName() + " is shown", text.contains("." + method.getName() + "("));
            }
        }
    }
}
