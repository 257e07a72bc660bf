import java.lang.reflect.InvocationTargetException;
import java.lang.reflect.Method;
import java.util.ArrayList;
import java.util.Arrays;
import java.util.HashMap;
import java.util.List;
import java.util.Map;

/** Asks the program or the model by the names of their methods, so that what both answer can be compared. */
final class Answers {
    private static final String[] OF_THE_WHOLE = {"state", "weakest", "clashes", "widest", "wood", "canRaise",
        "canTakeAway", "orders", "stuck", "allForce", "rightShare", "meanPull", "isSound"};
    private static final String[] OF_MEMBERS = {"force", "pull", "piece", "stickOf", "raised", "props"};
    private static final String[] OF_JOINTS = {"isRight", "misread", "gap"};
    private static final Map<String, Method> METHODS = new HashMap<>();

    private Answers() {
    }

    /** The answer to a call, or what it throws, as a text. */
    static String one(Object of, String name, Object... arguments) {
        try {
            return String.valueOf(method(of.getClass(), name).invoke(of, arguments));
        } catch (InvocationTargetException thrown) {
            return "throws " + thrown.getCause().getClass().getName();
        } catch (ReflectiveOperationException thrown) {
            throw new IllegalStateException(name, thrown);
        }
    }

    private static Method method(Class<?> of, String name) throws NoSuchMethodException {
        String key = of.getName() + "." + name;
        if (!METHODS.containsKey(key)) {
            for (Method method : of.getDeclaredMethods()) {
                boolean isHidden = java.lang.reflect.Modifier.isPrivate(method.getModifiers());
                if (!isHidden && method.getName().equals(name)) {
                    METHODS.put(key, method);
                }
            }
        }
        if (!METHODS.containsKey(key)) {
            throw new NoSuchMethodException(key);
        }
        return METHODS.get(key);
    }

    /**
     * All that a yard can be asked, with the first index beyond on either side, some 230 calls. What only a
     * call tells that changes something comes last, so a yard that was asked must not be used again.
     */
    static List<String> all(Object yard) {
        List<String> told = new ArrayList<>();
        for (String name : OF_THE_WHOLE) {
            tell(told, yard, name);
        }
        each(told, yard, OF_MEMBERS, 9);
        each(told, yard, OF_JOINTS, 12);
        each(told, yard, new String[] {"waste"}, 5);
        each(told, yard, new String[] {"isBalanced"}, 31);
        for (int node = -1; node <= 8; node++) {
            tell(told, yard, "bearing", node, false);
            tell(told, yard, "bearing", node, true);
        }
        tell(told, yard, "setProps", 9);
        for (int member = 0; member < 9; member++) {
            tell(told, yard, "cutAt", member, 10);
            tell(told, yard, "dry", member, 60);
        }
        for (int node = 0; node < 8; node++) {
            tell(told, yard, "load", node, 0, 0);
        }
        tell(told, yard, "stick", 1, 6, 0);
        tell(told, yard, "joint", 8, 7, 'f', 2, 1);
        tell(told, yard, "member", 0, 1, 6, 0);
        tell(told, yard, "node", 0, 0, '-');
        return told;
    }

    private static void each(List<String> told, Object yard, String[] names, int count) {
        for (String name : names) {
            for (int index = -1; index <= count; index++) {
                tell(told, yard, name, index);
            }
        }
    }

    private static void tell(List<String> told, Object yard, String name, Object... arguments) {
        told.add(name + Arrays.toString(arguments) + " " + one(yard, name, arguments));
    }
}
