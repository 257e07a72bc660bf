/** Yards that several tests begin with. */
final class Yards {
    static final Class<IndexOutOfBoundsException> INDEX = IndexOutOfBoundsException.class;
    static final Class<IllegalArgumentException> ARGUMENT = IllegalArgumentException.class;
    static final Class<IllegalStateException> STATE = IllegalStateException.class;
    static final Class<java.util.NoSuchElementException> NONE = java.util.NoSuchElementException.class;
    static final Class<UnsupportedOperationException> UNSUPPORTED = UnsupportedOperationException.class;
    static final Class<ArithmeticException> ARITHMETIC = ArithmeticException.class;
    static final int[] FAR = {-1, 99, Integer.MAX_VALUE, Integer.MIN_VALUE};

    private Yards() {
    }

    /** A roof that stands: rafters 0 and 1 from the ridge, node 2, down to the tie 2. */
    static Tenonyard roof() {
        Tenonyard yard = new Tenonyard();
        yard.node(0, 0, 'p');
        yard.node(8, 0, 'r');
        yard.node(4, 3, '-');
        yard.member(0, 2, 20, 1);
        yard.member(1, 2, 20, 1);
        yard.member(0, 1, 24, 0);
        return yard;
    }

    /** Members 0 to count less 1, all from node 0, which is of this kind, to free nodes one further each. */
    static Tenonyard fan(char kind, int count) {
        Tenonyard yard = new Tenonyard();
        yard.node(0, 0, kind);
        for (int node = 1; node <= 7; node++) {
            yard.node(node, 0, '-');
        }
        for (int member = 0; member < count; member++) {
            yard.member(0, 1 + member % 7, 12, 0);
        }
        return yard;
    }

    /** The roof with all that a yard can have, as calls: each a name and its arguments. */
    static final Object[][] FURNISHED = {
        {"node", 0, 0, 'p'}, {"node", 8, 0, 'r'}, {"node", 4, 3, '-'},
        {"member", 0, 2, 20, 1}, {"member", 1, 2, 20, 1}, {"member", 0, 1, 24, 0},
        {"load", 2, 31, -61}, {"load", 0, -7, 5}, {"load", 2, 2, 2},
        {"joint", 0, 2, 'd', 6, 6}, {"joint", 1, 2, 'd', 8, 12}, {"joint", 0, 1, 'f', 6, 9},
        {"cutAt", 0, 40}, {"dry", 0, 20}, {"cutAt", 1, 60}, {"dry", 2, 10},
        {"stick", 200, 24, 1}, {"stick", 70, 20, 2}, {"stick", 140, 30, 1}, {"setProps", 1},
    };

    /** As many nodes, members, joints and sticks as there can be, in a frame that stands and can be cut and raised. */
    static final Object[][] FULL = {
        {"node", 0, 0, 'p'}, {"node", 10, 0, 'p'}, {"node", 20, 0, 'p'}, {"node", 30, 0, 'r'},
        {"node", 5, 6, '-'}, {"node", 15, 6, '-'}, {"node", 25, 6, '-'}, {"node", 10, 14, '-'},
        {"member", 0, 4, 20, 0}, {"member", 1, 4, 18, 1}, {"member", 1, 5, 16, 0}, {"member", 2, 5, 14, 1},
        {"member", 2, 3, 12, 2}, {"member", 2, 6, 24, 0}, {"member", 3, 6, 40, 3}, {"member", 4, 7, 6, 0},
        {"member", 5, 7, 30, 1},
        {"load", 7, 50, -120}, {"load", 6, -30, -77}, {"load", 3, 10, 10}, {"load", 5, 0, 1},
        {"joint", 0, 1, 'd', 6, 1}, {"joint", 7, 0, 'd', 2, 16}, {"joint", 7, 1, 'd', 3, 3}, {"joint", 2, 1, 'l', 5, 24},
        {"joint", 2, 3, 'l', 4, 31}, {"joint", 8, 2, 'u', 5, 17}, {"joint", 8, 3, 'u', 5, 9}, {"joint", 4, 3, 'f', 4, 18},
        {"joint", 5, 3, 'r', 5, 4}, {"joint", 5, 4, 'f', 7, 10}, {"joint", 6, 4, 'f', 8, 21}, {"joint", 6, 5, 'r', 20, 30},
        {"cutAt", 8, 60}, {"dry", 8, 10}, {"cutAt", 2, 35}, {"dry", 5, 29},
        {"stick", 300, 30, 1}, {"stick", 250, 40, 3}, {"stick", 200, 24, 2}, {"stick", 320, 40, 0}, {"stick", 170, 18, 1},
        {"setProps", 2},
    };

    /** Too few members for its nodes, joints that let no order be, and a stick that is too short. */
    static final Object[][] BARE = {
        {"node", 0, 0, '-'}, {"node", 4, 0, '-'}, {"node", 4, 4, '-'}, {"node", 4, 4, '-'},
        {"member", 0, 1, 20, 1}, {"member", 1, 2, 20, 1}, {"member", 2, 0, 24, 0},
        {"joint", 0, 1, 'u', 6, 6}, {"joint", 0, 2, 'r', 8, 12}, {"joint", 1, 2, 'f', 6, 9},
        {"stick", 20, 24, 3}, {"setProps", 9},
    };

    /** Makes these calls on a new yard, or on the model; none of them is refused. */
    static <T> T make(T yard, Object[][] calls) {
        for (Object[] call : calls) {
            String name = (String) call[0];
            String got = Answers.one(yard, name, java.util.Arrays.copyOfRange(call, 1, call.length));
            Check.no(name + " " + got, got.startsWith("throws"));
        }
        return yard;
    }

    static Tenonyard full() {
        return make(new Tenonyard(), FULL);
    }
}
