/** Yards that several tests begin with. */
final class Yards {
    static final Class<IndexOutOfBoundsException> INDEX = IndexOutOfBoundsException.class;
    static final Class<IllegalArgumentException> ARGUMENT = IllegalArgumentException.class;
    static final Class<IllegalStateException> STATE = IllegalStateException.class;
    static final Class<java.util.NoSuchElementException> NONE = java.util.NoSuchElementException.class;
    static final Class<UnsupportedOperationException> UNSUPPORTED = UnsupportedOperationException.class;
    static final Class<ArithmeticException> ARITHMETIC = ArithmeticException.class;
    static final int[] FAR = {-1, 99, Integer.MAX_VALUE, Integer.MIN_VALUE};

    private Yards() {
    }

    /** A roof that stands: rafters 0 and 1 from the ridge, node 2, down to the tie 2. */
    static Tenonyard roof() {
        Tenonyard yard = new Tenonyard();
        yard.node(0, 0, 'p');
        yard.node(8, 0, 'r');
        yard.node(4, 3, '-');
        yard.member(0, 2, 20, 1);
        yard.member(1, 2, 20, 1);
        yard.member(0, 1, 24, 0);
        return yard;
    }

    /** Members 0 to count less 1, all from node 0, which is of this kind, to free nodes one further each. */
    static Tenonyard fan(char kind, int count) {
        Tenonyard yard = new Tenonyard();
        yard.node(0, 0, kind);
        for (int node = 1; node <= 7; node++) {
            yard.node(node, 0, '-');
        }
        for (int member = 0; member < count; member++) {
            yard.member(0, 1 + member % 7, 12, 0);
        }
        return yard;
    }
}
