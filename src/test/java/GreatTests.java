import java.math.BigInteger;

/**
 * Frames that were sought for great forces, with loads as great and as many as calls allow: on the way to
 * the answers numbers go far beyond a long number, and so do some of what is added up.
 */
public final class GreatTests {
    private static final BigInteger GREATEST = BigInteger.valueOf(Long.MAX_VALUE);
    private static final BigInteger LEAST = BigInteger.valueOf(Long.MIN_VALUE);

    /** The frame of issue 8, whose pulls are great and mostly above 0 if node 6 is drawn to the right and down. */
    private static final Great STEEP = new Great("-pppr---",
            new int[] {30, 23, 30, 0, 0, 0, 1, 17, 29, 0, 1, 1, 30, 29, 13, 10},
            new int[] {6, 2, 1, 5, 2, 0, 1, 7, 4, 5, 7, 0, 5, 6, 0, 4, 3, 7});

    private static final Great[] FRAMES = {
        STEEP,
        new Great("----pppp", new int[] {29, 28, 1, 12, 6, 16, 20, 2, 28, 25, 4, 15, 23, 0, 22, 1},
                new int[] {0, 5, 0, 2, 1, 7, 1, 3, 2, 6, 2, 7, 3, 0, 3, 4}),
        new Great("----pppp", new int[] {9, 24, 3, 1, 28, 13, 1, 0, 2, 29, 3, 1, 2, 28, 10, 28},
                new int[] {0, 2, 0, 6, 1, 7, 1, 0, 2, 3, 2, 5, 3, 4, 3, 6}),
        new Great("----pppp", new int[] {3, 29, 27, 9, 4, 2, 1, 30, 3, 30, 22, 13, 20, 1, 17, 6},
                new int[] {0, 7, 0, 6, 1, 2, 1, 7, 2, 0, 2, 4, 3, 5, 3, 1}),
        new Great("----pppp", new int[] {12, 28, 30, 26, 2, 7, 28, 17, 5, 9, 13, 30, 2, 8, 25, 19},
                new int[] {0, 7, 0, 3, 1, 2, 1, 4, 2, 5, 2, 0, 3, 6, 3, 4}),
        new Great("----pppp", new int[] {0, 0, 29, 3, 2, 28, 30, 30, 26, 7, 30, 2, 22, 10, 1, 0},
                new int[] {0, 5, 0, 3, 1, 0, 1, 7, 2, 4, 2, 5, 3, 2, 3, 6}),
        new Great("----rppp", new int[] {0, 1, 29, 0, 28, 29, 0, 28, 28, 28, 29, 0, 29, 29, 1, 27},
                new int[] {1, 4, 3, 1, 0, 6, 1, 7, 2, 4, 0, 4, 3, 2, 5, 2, 6, 3}),
        new Great("----rppp", new int[] {25, 24, 1, 1, 2, 28, 30, 29, 1, 1, 2, 29, 19, 25, 0, 0},
                new int[] {1, 2, 6, 2, 0, 2, 5, 4, 4, 0, 3, 1, 3, 7, 1, 5, 0, 7}),
        new Great("---rrrpp", new int[] {29, 0, 30, 28, 1, 1, 0, 28, 1, 27, 29, 0, 30, 0, 0, 27},
                new int[] {4, 1, 2, 5, 2, 6, 2, 3, 0, 3, 4, 0, 7, 4, 1, 7, 1, 5}),
        new Great("---rrrpp", new int[] {1, 1, 28, 0, 28, 0, 1, 26, 0, 27, 0, 27, 29, 0, 29, 30},
                new int[] {1, 3, 1, 7, 0, 6, 5, 3, 5, 1, 4, 2, 1, 0, 3, 2, 4, 0}),
    };

    private record Great(String kinds, int[] places, int[] members) {
    }

    private static Tenonyard yard;
    private static Model model;

    public static void main(String[] args) {
        sumAbove();
        sumBelow();
        sumInRange();
        eachSum(999, -999);
        eachSum(-999, 999);
        eachSum(991, 7);
        eachSum(-1, 0);
        everyAnswer();
        Check.end("GreatTests");
    }

    private static void make(Great frame) {
        yard = new Tenonyard();
        model = new Model();
        for (int node = 0; node < 8; node++) {
            yard.node(frame.places[2 * node], frame.places[2 * node + 1], frame.kinds.charAt(node));
            model.node(frame.places[2 * node], frame.places[2 * node + 1], frame.kinds.charAt(node));
        }
        for (int member = 0; member < frame.members.length / 2; member++) {
            yard.member(frame.members[2 * member], frame.members[2 * member + 1], 10, 0);
            model.member(frame.members[2 * member], frame.members[2 * member + 1], 10, 0);
        }
    }

    private static void load(int node, int right, int up) {
        yard.load(node, right, up);
        model.load(node, right, up);
    }

    /** "Returns the sum of all pulls in thousandths": the sum is meant, also if it is above what a long holds. */
    private static void sumAbove() {
        make(STEEP);
        for (int times = 0; times < 20; times++) {
            load(6, 999, -999);
        }
        long[] due = {-1138860000L, -958380660000L, -10492846570080000L, 5091667677558000000L, 991387620000L,
            18515155191120000L, 1178820000L, 27758853360000L, 7239425679727920000L};
        for (int member = 0; member < 9; member++) {
            Check.same("pull " + member, yard.pull(member), due[member]);
        }
        Check.same("sum above a long", yard.meanPull(), (Object) (12339143457807240000.0 / 9.0));
    }

    private static void sumBelow() {
        make(STEEP);
        for (int times = 0; times < 20; times++) {
            load(6, -999, 999);
        }
        Check.same("the least pull", yard.pull(8), -7239425679727920000L);
        Check.same("sum below a long", yard.meanPull(), (Object) (-12339143457807240000.0 / 9.0));
    }

    /** A sum that a long holds just still, on either side, with no rest that a double could lose twice. */
    private static void sumInRange() {
        for (int sign = -1; sign <= 1; sign += 2) {
            make(STEEP);
            for (int times = 0; times < 14; times++) {
                load(6, sign * 999, -sign * 999);
            }
            long sum = 0;
            for (int member = 0; member < 9; member++) {
                sum = Math.addExact(sum, yard.pull(member));
            }
            Check.same("a great sum", yard.meanPull(), (Object) ((double) sum / 9.0));
        }
    }

    /** All sums that come up as one load is added as often as there are calls. */
    private static void eachSum(int right, int up) {
        int beyond = 0;
        for (Great frame : FRAMES) {
            for (int node = 0; node < 8; node++) {
                make(frame);
                for (int times = 1; times <= 400; times++) {
                    load(node, right, up);
                    if (times % 20 == 1 || frame == STEEP && node == 6) {
                        beyond += isMeanBeyond() ? 1 : 0;
                    }
                }
            }
        }
        boolean areGreat = Math.abs(right) > 900;
        Check.same(beyond + " sums beyond a long", areGreat ? beyond > 200 : beyond == 0, (Object) true);
    }

    private static boolean isMeanBeyond() {
        Check.same("mean pull", yard.meanPull(), (Object) model.meanPull());
        BigInteger sum = model.sumOfPulls();
        return sum.compareTo(GREATEST) > 0 || sum.compareTo(LEAST) < 0;
    }

    private static void everyAnswer() {
        int great = 0;
        for (Great frame : FRAMES) {
            for (int loads = 1; loads <= 401; loads += 40) {
                make(frame);
                for (int load = 0; load < loads; load++) {
                    load(loads / 40 % 4, 999 - load % 7, loads % 3 * 997 - 999 + load % 5);
                }
                askAll();
                great += Math.abs(yard.force(yard.weakest())) > 1L << 40 ? 1 : 0;
            }
        }
        Check.yes(great + " times there were great forces", great >= 40);
    }

    private static void askAll() {
        for (String name : new String[] {"state", "weakest", "allForce", "meanPull", "isSound"}) {
            ask(name);
        }
        for (int member = 0; member < 9; member++) {
            ask("force", member);
            ask("pull", member);
        }
        for (int node = 0; node < 8; node++) {
            ask("bearing", node, false);
            ask("bearing", node, true);
        }
        for (int x = 0; x <= 30; x++) {
            ask("isBalanced", x);
        }
    }

    /** What is beyond a long number has no answer that is due: the model refuses it. */
    private static void ask(String name, Object... arguments) {
        String due = Answers.one(model, name, arguments);
        if (!due.equals("throws java.lang.ArithmeticException")) {
            Check.same("great " + name, (Object) Answers.one(yard, name, arguments), (Object) due);
        }
    }
}
