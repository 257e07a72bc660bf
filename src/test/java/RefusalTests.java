import java.util.Arrays;
import java.util.List;

/**
 * "A method that throws an exception changes nothing. If several exceptions apply, the one that is listed first is
 * thrown." Each refused call is made on a yard of its own, which then answers all as if it had not been made.
 */
public final class RefusalTests {
    private static final String INDEX = "throws java.lang.IndexOutOfBoundsException";
    private static final String ARGUMENT = "throws java.lang.IllegalArgumentException";
    private static final String STATE = "throws java.lang.IllegalStateException";
    private static final String UNSUPPORTED = "throws java.lang.UnsupportedOperationException";
    private static final String NONE = "throws java.util.NoSuchElementException";
    private static final String ARITHMETIC = "throws java.lang.ArithmeticException";
    private static final int FAR = Integer.MAX_VALUE;

    public static void main(String[] args) {
        asTheModel();
        nothingIsThere();
        oneOfThree();
        fullYard();
        nothingHolds();
        Check.end("RefusalTests");
    }

    /** What the yards of these tests answer, each time they are asked, is what the model answers. */
    private static void asTheModel() {
        for (Object[][] calls : new Object[][][] {{}, Yards.FURNISHED, Yards.FULL, Yards.BARE}) {
            Check.same("all answers", Answers.all(Yards.make(new Tenonyard(), calls)),
                    (Object) Answers.all(Yards.make(new Model(), calls)));
        }
        Check.same("the full yard stands", Yards.full().state(), '.');
        Check.yes("the full yard can be raised", Yards.full().canRaise());
        Check.yes("the full yard is cut from sticks", Yards.full().wood() > 800);
    }

    /** Each refused call: what is due, the name, the arguments. */
    private static void refuse(Object[][] made, Object[][] refused) {
        List<String> due = Answers.all(Yards.make(new Tenonyard(), made));
        for (Object[] call : refused) {
            Tenonyard fresh = Yards.make(new Tenonyard(), made);
            refuse(fresh, call, due);
            Tenonyard asked = Yards.make(new Tenonyard(), made);
            for (String question : new String[] {"state", "wood", "orders"}) {
                Answers.one(asked, question);
            }
            refuse(asked, call, due);
        }
    }

    /** Twice, as what a first refusal breaks can show in the second one alone. */
    private static void refuse(Tenonyard yard, Object[] call, List<String> due) {
        String name = (String) call[1];
        Object[] arguments = Arrays.copyOfRange(call, 2, call.length);
        String text = name + Arrays.toString(arguments);
        for (int time = 0; time < 2; time++) {
            Check.same(text, (Object) Answers.one(yard, name, arguments), call[0]);
        }
        Check.same("all answers behind " + text, Answers.all(yard), (Object) due);
    }

    private static void nothingIsThere() {
        refuse(new Object[][] {}, new Object[][] {
            {ARGUMENT, "node", -1, 0, '-'}, {ARGUMENT, "node", 0, 31, '-'}, {ARGUMENT, "node", 0, 0, 'x'},
            {INDEX, "member", 0, 1, 6, 0}, {INDEX, "member", 0, 0, 5, 4}, {INDEX, "load", 0, 0, 0},
            {INDEX, "load", 0, 1000, 0}, {INDEX, "force", 0}, {INDEX, "pull", 0}, {INDEX, "bearing", 0, true},
            {ARGUMENT, "isBalanced", -1}, {ARGUMENT, "isBalanced", 31}, {NONE, "weakest"},
            {INDEX, "joint", 0, 0, 'x', 0, 0}, {INDEX, "joint", 0, 1, 'u', 2, 1}, {INDEX, "isRight", 0},
            {INDEX, "misread", 0}, {INDEX, "cutAt", 0, 30}, {INDEX, "cutAt", 0, 9}, {INDEX, "dry", 0, 30},
            {INDEX, "dry", 0, 61}, {INDEX, "gap", 0}, {NONE, "widest"}, {ARGUMENT, "stick", 0, 6, 0},
            {ARGUMENT, "stick", 1, 41, 0}, {ARGUMENT, "stick", 1, 6, 4}, {INDEX, "piece", 0}, {INDEX, "stickOf", 0},
            {INDEX, "waste", 0}, {ARGUMENT, "setProps", -1}, {ARGUMENT, "setProps", 10}, {INDEX, "raised", 0},
            {INDEX, "props", 0}, {NONE, "stuck"}, {ARITHMETIC, "rightShare"}, {ARITHMETIC, "meanPull"},
        });
    }

    /** Each argument of each call wrong alone, the others right. */
    private static void oneOfThree() {
        refuse(Yards.FURNISHED, new Object[][] {
            {ARGUMENT, "node", 31, 0, '-'}, {ARGUMENT, "node", -1, 0, '-'}, {ARGUMENT, "node", 0, 31, 'p'},
            {ARGUMENT, "node", 0, -1, 'r'}, {ARGUMENT, "node", 0, 0, 'f'}, {ARGUMENT, "node", 31, 31, 'x'},
            {INDEX, "member", 3, 0, 6, 0}, {INDEX, "member", -1, 0, 6, 0}, {INDEX, "member", 0, 3, 6, 0},
            {INDEX, "member", 0, -1, 6, 0}, {ARGUMENT, "member", 1, 1, 6, 0}, {ARGUMENT, "member", 0, 1, 5, 0},
            {ARGUMENT, "member", 0, 1, 41, 0}, {ARGUMENT, "member", 0, 1, 6, -1}, {ARGUMENT, "member", 0, 1, 6, 4},
            {INDEX, "member", 3, 3, 6, 0}, {INDEX, "member", 3, 0, 5, 0}, {INDEX, "member", 0, 3, 6, 4},
            {INDEX, "member", -1, -1, 41, -1},
            {INDEX, "load", 3, 0, 0}, {INDEX, "load", -1, 0, 0}, {ARGUMENT, "load", 2, 1000, 0},
            {ARGUMENT, "load", 2, -1000, 7}, {ARGUMENT, "load", 2, 7, 1000}, {ARGUMENT, "load", 2, 7, -1000},
            {INDEX, "load", 3, 1000, 0}, {INDEX, "load", -1, 0, -1000},
            {INDEX, "force", 3}, {INDEX, "pull", -1}, {INDEX, "bearing", 3, false}, {ARGUMENT, "isBalanced", FAR},
            {INDEX, "joint", 3, 0, 'u', 2, 1}, {INDEX, "joint", 0, 3, 'u', 2, 1}, {INDEX, "joint", -1, 0, 'u', 2, 1},
            {INDEX, "joint", 0, -1, 'u', 2, 1}, {ARGUMENT, "joint", 1, 1, 'u', 2, 1}, {ARGUMENT, "joint", 0, 1, 'x', 2, 1},
            {ARGUMENT, "joint", 0, 1, 'u', 1, 1}, {ARGUMENT, "joint", 0, 1, 'u', 21, 1},
            {ARGUMENT, "joint", 0, 1, 'u', 2, 0}, {ARGUMENT, "joint", 0, 1, 'u', 2, 32},
            {UNSUPPORTED, "joint", 0, 1, 'u', 2, 1}, {UNSUPPORTED, "joint", 1, 0, 'f', 20, 31},
            {INDEX, "joint", 3, 3, 'u', 2, 1}, {INDEX, "joint", 3, 0, 'x', 2, 1}, {INDEX, "joint", 0, 3, 'u', 1, 1},
            {INDEX, "isRight", 3}, {INDEX, "misread", 3}, {INDEX, "gap", -1},
            {INDEX, "cutAt", 3, 30}, {ARGUMENT, "cutAt", 0, 9}, {ARGUMENT, "cutAt", 2, 61}, {INDEX, "cutAt", 3, 61},
            {INDEX, "dry", -1, 30}, {ARGUMENT, "dry", 0, 9}, {ARGUMENT, "dry", 2, 61}, {INDEX, "dry", -1, 9},
            {ARGUMENT, "stick", 0, 6, 0}, {ARGUMENT, "stick", 901, 6, 0}, {ARGUMENT, "stick", 1, 5, 0},
            {ARGUMENT, "stick", 1, 41, 0}, {ARGUMENT, "stick", 1, 6, -1}, {ARGUMENT, "stick", 1, 6, 4},
            {INDEX, "piece", 3}, {INDEX, "stickOf", 3}, {INDEX, "waste", 3}, {ARGUMENT, "setProps", 10},
            {ARGUMENT, "setProps", -1}, {INDEX, "raised", 3}, {INDEX, "props", -1},
        });
    }

    /** With the most of all, what is out of range or not there is told before that there is no more room. */
    private static void fullYard() {
        refuse(Yards.FULL, new Object[][] {
            {STATE, "node", 0, 0, '-'}, {ARGUMENT, "node", 31, 0, '-'}, {ARGUMENT, "node", 0, -1, 'p'},
            {ARGUMENT, "node", 0, 0, 'x'},
            {STATE, "member", 0, 1, 6, 0}, {ARGUMENT, "member", 2, 2, 6, 0}, {ARGUMENT, "member", 0, 1, 5, 0},
            {ARGUMENT, "member", 0, 1, 6, 4}, {INDEX, "member", 8, 1, 6, 0}, {INDEX, "member", 0, 8, 6, 0},
            {INDEX, "member", 8, 8, 5, 4}, {INDEX, "member", -1, 1, 41, 0},
            {STATE, "joint", 7, 8, 'f', 2, 1}, {UNSUPPORTED, "joint", 0, 1, 'f', 2, 1},
            {UNSUPPORTED, "joint", 0, 6, 'f', 2, 1}, {ARGUMENT, "joint", 8, 8, 'f', 2, 1},
            {ARGUMENT, "joint", 7, 8, 'x', 2, 1}, {ARGUMENT, "joint", 7, 8, 'f', 1, 1},
            {ARGUMENT, "joint", 7, 8, 'f', 2, 32}, {ARGUMENT, "joint", 0, 1, 'x', 2, 1},
            {ARGUMENT, "joint", 0, 6, 'f', 21, 1}, {INDEX, "joint", 9, 8, 'f', 2, 1}, {INDEX, "joint", 8, 9, 'f', 2, 1},
            {INDEX, "joint", 9, 9, 'x', 0, 0}, {INDEX, "joint", -1, 0, 'f', 0, 1},
            {STATE, "stick", 1, 6, 0}, {ARGUMENT, "stick", 0, 6, 0}, {ARGUMENT, "stick", 901, 6, 0},
            {ARGUMENT, "stick", 1, 5, 0}, {ARGUMENT, "stick", 1, 6, 4},
            {INDEX, "load", 8, 0, 0}, {INDEX, "force", 9}, {INDEX, "pull", 9}, {INDEX, "bearing", 8, true},
            {INDEX, "isRight", 12}, {INDEX, "misread", 12}, {INDEX, "gap", 12}, {INDEX, "cutAt", 9, 30},
            {INDEX, "dry", 9, 30}, {INDEX, "piece", 9}, {INDEX, "stickOf", 9}, {INDEX, "waste", 5},
            {INDEX, "raised", 9}, {INDEX, "props", 9},
        });
    }

    /** A loose frame, no order, no way to cut: index and place are told before, but behind that there is no order. */
    private static void nothingHolds() {
        refuse(Yards.BARE, new Object[][] {
            {STATE, "force", 0}, {INDEX, "force", 3}, {INDEX, "force", -1}, {STATE, "pull", 0}, {INDEX, "pull", 3},
            {STATE, "bearing", 0, true}, {STATE, "bearing", 3, false}, {INDEX, "bearing", 4, true},
            {INDEX, "bearing", -1, false}, {STATE, "isBalanced", 0}, {STATE, "isBalanced", 30},
            {ARGUMENT, "isBalanced", 31}, {ARGUMENT, "isBalanced", -1}, {STATE, "weakest"}, {STATE, "allForce"},
            {STATE, "meanPull"}, {ARGUMENT, "member", 2, 3, 6, 0}, {UNSUPPORTED, "joint", 1, 0, 'u', 2, 1},
            {NONE, "stickOf", 0}, {INDEX, "stickOf", 3}, {INDEX, "stickOf", -1}, {NONE, "wood"}, {NONE, "waste", 0},
            {INDEX, "waste", 1}, {INDEX, "waste", -1}, {NONE, "raised", 0}, {NONE, "raised", 3}, {NONE, "raised", -1},
            {NONE, "raised", FAR}, {NONE, "props", 0}, {NONE, "props", 3}, {NONE, "props", -1}, {NONE, "props", FAR},
        });
        refuse(new Object[][] {{"node", 0, 0, '-'}}, new Object[][] {
            {STATE, "weakest"}, {STATE, "meanPull"}, {STATE, "allForce"}, {STATE, "bearing", 0, true},
        });
    }
}
