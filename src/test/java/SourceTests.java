import java.io.IOException;
import java.lang.reflect.Constructor;
import java.lang.reflect.Field;
import java.lang.reflect.Method;
import java.lang.reflect.Modifier;
import java.nio.file.Files;
import java.nio.file.Path;
import java.util.Set;
import java.util.TreeSet;

/** The face is that of ../shared/DOC.md to the letter, and the source keeps the plainest rules of LANGUAGE.md. */
public final class SourceTests {
    private static final String[] FORBIDDEN = {"->", "::", "Exact(", "finally", "synchronized", "assert ",
        "catch", "try ", "package ", "protected ", "System.", "Object", "Double.", "Float.", "@"};

    public static void main(String[] args) throws IOException, ReflectiveOperationException {
        face();
        room();
        source();
        Check.end("SourceTests");
    }

    private static void face() throws IOException {
        Set<String> due = new TreeSet<>();
        for (String line : Files.readAllLines(Path.of("../shared/DOC.md"))) {
            if (line.startsWith("    public ") && line.endsWith(";")) {
                due.add(plain(line.replaceAll("(int|char|boolean) \\w+(?=[,)])", "$1")));
            }
        }
        Set<String> names = new TreeSet<>();
        Set<String> got = new TreeSet<>();
        for (Method method : Tenonyard.class.getDeclaredMethods()) {
            if (Modifier.isPrivate(method.getModifiers())) {
                names.add(method.getName());
            } else {
                got.add(plain(method.toGenericString().replace("Tenonyard.", "") + ";"));
            }
        }
        for (Constructor<?> constructor : Tenonyard.class.getDeclaredConstructors()) {
            got.add(plain(constructor.toGenericString() + ";"));
        }
        Check.same("face", got, (Object) due);
        for (Method method : Tenonyard.class.getDeclaredMethods()) {
            boolean isPublic = Modifier.isPublic(method.getModifiers());
            Check.no("a private " + method.getName(), isPublic && names.contains(method.getName()));
        }
        for (Field field : Tenonyard.class.getDeclaredFields()) {
            Check.yes(field.getName() + " is private", Modifier.isPrivate(field.getModifiers()));
        }
    }

    /** A head with no package names, argument names and needless spaces. */
    private static String plain(String head) {
        return head.replaceAll("java\\.\\w+\\.", "").replaceAll(", ", ",").replace(" throws ", "throws")
                .replaceAll(";$", "").trim();
    }

    /** What a yard is made of, against the room that all calls of a run have together. */
    private static void room() throws ReflectiveOperationException {
        long elements = 0;
        Tenonyard yard = new Tenonyard();
        for (Field part : Tenonyard.class.getDeclaredFields()) {
            if (Modifier.isStatic(part.getModifiers())) {
                continue;
            }
            part.setAccessible(true);
            Object held = part.get(yard);
            for (Field field : held.getClass().getDeclaredFields()) {
                field.setAccessible(true);
                Object row = field.get(Modifier.isStatic(field.getModifiers()) ? null : held);
                elements += row.getClass().isArray() ? java.lang.reflect.Array.getLength(row) : 1;
            }
        }
        Check.yes(elements + " elements are few", elements > 1000 && elements < 10000);
    }

    private static void source() throws IOException {
        String text = Files.readString(Path.of("src/main/java/Tenonyard.java"));
        for (String forbidden : FORBIDDEN) {
            Check.no("the source has " + forbidden, text.contains(forbidden));
        }
        for (String line : text.split("\n")) {
            boolean isImport = line.startsWith("import ");
            Check.no("import of more: " + line, isImport && !line.equals("import java.util.NoSuchElementException;"));
            boolean isLoose = line.contains("static ") && line.endsWith(";") && !line.contains("static final ");
            Check.no("a static that changes: " + line, isLoose);
        }
        Check.yes("signs 1 to 127 alone", text.chars().allMatch(sign -> sign >= 1 && sign <= 127));
    }
}
