import java.util.ArrayList;
import java.util.Arrays;
import java.util.List;

/**
 * Runs of calls, made up from a fixed seed, on the program and on the model: every answer and every
 * exception must be the same. Ends with exit code 1 at the first call that differs, and prints its run.
 * How many runs and the seed can be told as arguments.
 */
public final class RandomTests {
    /** Each method with what its arguments are, a letter each: see number(). */
    private static final String[] MAKERS = {"node xxK", "member nnbg", "load nll", "joint mmWtk", "stick Lbg"};
    private static final String[] CHANGES = {"cutAt mq", "dry mq", "setProps p", "load nll", "joint mmWtk", "stick Lbg",
        "member nnbg", "node xxK"};
    private static final String[] QUESTIONS = {"state", "force m", "pull m", "bearing nB", "isBalanced x", "weakest",
        "isRight j", "misread j", "clashes", "gap j", "widest", "piece m", "stickOf m", "wood", "waste s", "raised m",
        "canRaise", "canTakeAway", "orders", "props m", "stuck", "allForce", "rightShare", "meanPull", "isSound"};

    private static long seed;
    private static int grid;
    private static int nodes;
    private static int members;
    private static int joints;
    private static int sticks;
    private static final int[] STATES = new int[128];

    public static void main(String[] args) {
        int runs = args.length > 0 ? Integer.parseInt(args[0]) : 800;
        seed = args.length > 1 ? Long.parseLong(args[1]) : 20261119;
        for (int run = 0; run < runs; run++) {
            oneRun();
        }
        for (char state : new char[] {'l', 't', 'c', '.'}) {
            Check.yes("enough frames are " + state, STATES[state] > runs / 50);
        }
        Check.end("RandomTests");
    }

    private static void oneRun() {
        Tenonyard yard = new Tenonyard();
        Model model = new Model();
        List<String> told = new ArrayList<>();
        grid = new int[] {2, 4, 8, 30}[below(4)];
        nodes = 0;
        members = 0;
        joints = 0;
        sticks = 0;
        makeFrame(yard, model, told);
        for (int made = below(20); made > 0; made--) {
            call(yard, model, MAKERS[2 + below(3)], told);
        }
        STATES[model.state()]++;
        for (String question : QUESTIONS) {
            call(yard, model, question, told);
        }
        for (int asked = below(60); asked > 0; asked--) {
            String[] from = below(4) == 0 ? CHANGES : QUESTIONS;
            call(yard, model, from[below(from.length)], told);
        }
    }

    /** Mostly as many members as a frame needs that stands. */
    private static void makeFrame(Tenonyard yard, Model model, List<String> told) {
        int needed = 0;
        String kinds = "-pr-p";
        for (int count = 1 + below(8); count > 0; count--) {
            char kind = kinds.charAt(below(5));
            int x = below(grid + 1);
            int y = below(grid + 1);
            told.add("node " + x + " " + y + " " + kind);
            yard.node(x, y, kind);
            model.node(x, y, kind);
            nodes++;
            needed += kind == 'p' ? 0 : kind == 'r' ? 1 : 2;
        }
        needed += below(8) == 0 ? 1 - below(3) : 0;
        for (int tried = 0; tried < 60 && members < needed; tried++) {
            call(yard, model, "member nnbg", told);
        }
    }

    private static void call(Tenonyard yard, Model model, String call, List<String> told)
            {
        String[] parts = (call + " ").split(" ", -1);
        Object[] arguments = new Object[parts[1].length()];
        for (int index = 0; index < arguments.length; index++) {
            arguments[index] = argument(parts[1].charAt(index));
        }
        String text = parts[0] + Arrays.toString(arguments);
        told.add(text);
        String got = Answers.one(yard, parts[0], arguments);
        String due = Answers.one(model, parts[0], arguments);
        Check.same(text, (Object) got, (Object) due);
        if (!got.equals(due)) {
            System.out.println(told);
            Check.end("RandomTests");
        }
        if (!due.startsWith("throws")) {
            nodes += parts[0].equals("node") ? 1 : 0;
            members += parts[0].equals("member") ? 1 : 0;
            joints += parts[0].equals("joint") ? 1 : 0;
            sticks += parts[0].equals("stick") ? 1 : 0;
        }
    }

    private static Object argument(char letter) {
        switch (letter) {
            case 'K': return below(30) == 0 ? 'x' : "-pr".charAt(below(3));
            case 'W': return below(30) == 0 ? 'x' : "uuudlrff".charAt(below(8));
            case 'B': return below(2) == 0;
            default: return number(letter);
        }
    }

    private static int number(char letter) {
        switch (letter) {
            case 'x': return within(0, below(10) == 0 ? 30 : grid);
            case 'n': return within(0, nodes - 1);
            case 'm': return within(0, members - 1);
            case 'j': return within(0, joints - 1);
            case 's': return within(0, sticks - 1);
            case 'b': return within(6, 40) | (below(2) == 0 ? 8 : 0);
            case 'g': return Math.min(within(0, 3), within(0, 3));
            case 'l': return within(-999, 999);
            case 't': return within(2, 20);
            case 'k': return within(1, 31);
            case 'q': return within(10, 60);
            case 'L': return within(1, below(3) == 0 ? 900 : 40 * grid);
            case 'p': return within(0, 9);
            default: throw new IllegalStateException("no such letter");
        }
    }

    /** A number in a range, at times at its edges or beyond. */
    private static int within(int least, int greatest) {
        int kind = below(60);
        if (kind == 0) {
            return new int[] {least - 1, greatest + 1, Integer.MIN_VALUE, Integer.MAX_VALUE, -1, 31}[below(6)];
        }
        if (kind < 4 || greatest <= least) {
            return below(2) == 0 ? least : greatest;
        }
        return least + below(greatest - least + 1);
    }

    private static int below(int bound) {
        seed = seed * 6364136223846793005L + 1442695040888963407L;
        return (int) ((seed >>> 33) % bound);
    }
}
