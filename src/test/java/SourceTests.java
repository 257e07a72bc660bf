import java.io.IOException;
import java.lang.reflect.Constructor;
import java.lang.reflect.Field;
import java.lang.reflect.Method;
import java.lang.reflect.Modifier;
import java.nio.file.Files;
import java.nio.file.Path;
import java.util.List;
import java.util.Set;
import java.util.TreeSet;
import java.util.regex.Matcher;
import java.util.regex.Pattern;

/**
 * The face is that of ../shared/DOC.md to the letter, and the source keeps the rules of ../shared/LANGUAGE.md, as far
 * as they can be read off it; a rule's number stands in the text of its check.
 */
public final class SourceTests {
    private static final String[] FORBIDDEN = {"->", "::", "Exact(", "finally", "synchronized", "assert ",
        "catch", "try ", "package ", "protected ", "System.", "Object", "Double.", "Float.", "@", "instanceof"};
    private static final Set<String> LIBRARY = Set.of("Math.abs", "Math.min", "Math.floorDiv", "Math.floorMod",
            "Integer.bitCount", "KINDS.indexOf", "WAY_SIGNS.indexOf");
    private static final Set<Class<?>> VALUES = Set.of(int.class, long.class, boolean.class, char.class,
            float.class, double.class, void.class);
    private static final Set<Class<?>> CONSTANTS = Set.of(int.class, long.class, boolean.class, char.class,
            String.class);
    private static final Set<String> EXCEPTIONS = Set.of("IllegalStateException", "IllegalArgumentException",
            "IndexOutOfBoundsException", "ArithmeticException", "UnsupportedOperationException",
            "NoSuchElementException");

    public static void main(String[] args) throws IOException, ReflectiveOperationException {
        face();
        room();
        classes();
        source();
        made(lines());
        lengths(lines());
        Check.end("SourceTests");
    }

    private static void face() throws IOException {
        Set<String> due = new TreeSet<>();
        for (String line : Files.readAllLines(Path.of("../shared/DOC.md"))) {
            if (line.startsWith("    public ") && line.endsWith(";")) {
                due.add(plain(line.replaceAll("(int|char|boolean) \\w+(?=[,)])", "$1")));
            }
        }
        Set<String> names = new TreeSet<>();
        Set<String> got = new TreeSet<>();
        for (Method method : Tenonyard.class.getDeclaredMethods()) {
            if (Modifier.isPrivate(method.getModifiers())) {
                names.add(method.getName());
            } else {
                got.add(plain(method.toGenericString().replace("Tenonyard.", "") + ";"));
            }
        }
        for (Constructor<?> constructor : Tenonyard.class.getDeclaredConstructors()) {
            got.add(plain(constructor.toGenericString() + ";"));
        }
        Check.same("face", got, (Object) due);
        for (Method method : Tenonyard.class.getDeclaredMethods()) {
            boolean isPublic = Modifier.isPublic(method.getModifiers());
            Check.no("a private " + method.getName(), isPublic && names.contains(method.getName()));
        }
        for (Field field : Tenonyard.class.getDeclaredFields()) {
            Check.yes(field.getName() + " is private", Modifier.isPrivate(field.getModifiers()));
        }
    }

    /** A head with no package names, argument names and needless spaces. */
    private static String plain(String head) {
        return head.replaceAll("java\\.\\w+\\.", "").replaceAll(", ", ",").replace(" throws ", "throws")
                .replaceAll(";$", "").trim();
    }

    /** What a yard is made of, against the room that all calls of a run have together. */
    private static void room() throws ReflectiveOperationException {
        long elements = 0;
        Tenonyard yard = new Tenonyard();
        for (Field part : Tenonyard.class.getDeclaredFields()) {
            if (Modifier.isStatic(part.getModifiers())) {
                continue;
            }
            part.setAccessible(true);
            Object held = part.get(yard);
            for (Field field : held.getClass().getDeclaredFields()) {
                field.setAccessible(true);
                Object row = field.get(Modifier.isStatic(field.getModifiers()) ? null : held);
                elements += row.getClass().isArray() ? java.lang.reflect.Array.getLength(row) : 1;
            }
        }
        Check.yes(elements + " elements are few", elements > 1000 && elements < 10000);
    }

    private static List<String> lines() throws IOException {
        return Files.readAllLines(Path.of("src/main/java/Tenonyard.java"));
    }

    private static void classes() {
        Set<String> face = new TreeSet<>();
        for (Method method : Tenonyard.class.getDeclaredMethods()) {
            if (Modifier.isPublic(method.getModifiers())) {
                face.add(method.getName());
            }
        }
        Class<?>[] inside = Tenonyard.class.getDeclaredClasses();
        Check.yes("11: at most twelve classes", inside.length < 12);
        members(Tenonyard.class);
        for (Class<?> one : inside) {
            int kind = one.getModifiers();
            Check.yes("1: " + one + " is static", Modifier.isStatic(kind));
            Check.no("1: " + one + " is hidden", Modifier.isPublic(kind) || Modifier.isProtected(kind));
            Check.same("2: classes inside " + one, one.getDeclaredClasses().length, 0);
            for (Method method : one.getDeclaredMethods()) {
                Check.no("1: " + method + " has a name of the face", face.contains(method.getName()));
            }
            members(one);
        }
    }

    private static void members(Class<?> of) {
        int fields = 0;
        for (Field field : of.getDeclaredFields()) {
            int kind = field.getModifiers();
            if (Modifier.isStatic(kind)) {
                Check.yes("5: " + field, Modifier.isFinal(kind) && CONSTANTS.contains(field.getType()));
            } else {
                fields++;
                Check.yes("3: " + field, isAllowed(field.getType()));
                Check.yes("a row is kept: " + field, !field.getType().isArray() || Modifier.isFinal(kind));
            }
        }
        Check.yes("11: at most twenty fields in " + of, fields <= 20);
        for (Method method : of.getDeclaredMethods()) {
            Check.yes("11: " + method, method.getParameterCount() <= 7);
            Check.yes("3: " + method, isAllowed(method.getReturnType()));
            for (Class<?> type : method.getParameterTypes()) {
                Check.yes("3: " + method, isAllowed(type));
            }
        }
    }

    private static boolean isAllowed(Class<?> type) {
        boolean isRow = type.isArray() && VALUES.contains(type.getComponentType());
        return isRow || VALUES.contains(type) || type.getDeclaringClass() == Tenonyard.class;
    }

    /** Rows and parts are made with the yard alone, so that no call makes anything but what it throws. */
    private static void made(List<String> lines) {
        for (String line : lines) {
            if (!line.contains("new ")) {
                continue;
            }
            String code = line.trim();
            Matcher thrown = Pattern.compile("throw new (\\w+)\\(\"[^\"]*\"\\);").matcher(code);
            boolean isThrown = thrown.matches() && EXCEPTIONS.contains(thrown.group(1));
            boolean isRow = code.matches("(private )?final \\w+\\[\\] \\w+ = new \\w+\\[[\\w *.]+\\];");
            boolean isPart = code.matches("(private )?(final Wide )?\\w+ = new [A-Z]\\w+\\(\\);");
            Check.yes("6, 12: " + code, isThrown || isRow || isPart);
        }
    }

    /** A head begins at four or eight spaces, and ends a line with its throws or its last argument. */
    private static void lengths(List<String> lines) {
        Pattern head = Pattern.compile("( {4}| {8})(?! |for |if |while |switch |\\}|.*class ).*(\\)|throws .*) \\{");
        int methods = 0;
        for (int begun = 0; begun < lines.size(); begun++) {
            Matcher matcher = head.matcher(lines.get(begun));
            if (!matcher.matches()) {
                continue;
            }
            methods++;
            int end = begun;
            while (end < lines.size() && !lines.get(end).equals(matcher.group(1) + "}")) {
                end++;
            }
            Check.yes("11: short: " + lines.get(begun).trim(), end - begun < 60);
        }
        Check.yes(methods + " methods are many", methods > 90);
    }

    private static void source() throws IOException {
        String text = Files.readString(Path.of("src/main/java/Tenonyard.java"));
        for (String forbidden : FORBIDDEN) {
            Check.no("the source has " + forbidden, text.contains(forbidden));
        }
        for (String line : text.split("\n")) {
            boolean isImport = line.startsWith("import ");
            Check.no("import of more: " + line, isImport && !line.equals("import java.util.NoSuchElementException;"));
            boolean isLoose = line.contains("static ") && line.endsWith(";") && !line.contains("static final ");
            Check.no("a static that changes: " + line, isLoose);
        }
        Matcher call = Pattern.compile("\\b([A-Z]\\w*\\.[a-z]\\w*)\\(").matcher(text);
        while (call.find()) {
            Check.yes("4: " + call.group(1), LIBRARY.contains(call.group(1)));
        }
        Check.yes("signs 1 to 127 alone", text.chars().allMatch(sign -> sign >= 1 && sign <= 127));
    }
}
