/** Promises 19 to 23: the sticks, and how members are cut from them. */
public final class YardTests {
    public static void main(String[] args) {
        stick();
        piece();
        withoutMembers();
        leastWood();
        lowestSticks();
        breadthsAndGrades();
        saw();
        Check.end("YardTests");
    }

    private static void stick() {
        Tenonyard yard = new Tenonyard();
        for (int length : new int[] {0, 901, -1, Integer.MAX_VALUE, Integer.MIN_VALUE}) {
            Check.refused("length " + length, Yards.ARGUMENT, () -> yard.stick(length, 6, 0));
        }
        for (int breadth : new int[] {5, 41, Integer.MAX_VALUE, Integer.MIN_VALUE}) {
            Check.refused("breadth " + breadth, Yards.ARGUMENT, () -> yard.stick(1, breadth, 0));
        }
        for (int grade : new int[] {-1, 4, Integer.MAX_VALUE, Integer.MIN_VALUE}) {
            Check.refused("grade " + grade, Yards.ARGUMENT, () -> yard.stick(1, 6, grade));
        }
        Check.same("stick", yard.stick(1, 6, 0), 0);
        Check.same("stick", yard.stick(900, 40, 3), 1);
        for (int stick = 2; stick < 5; stick++) {
            Check.same("stick", yard.stick(10, 10, 1), stick);
        }
        Check.refused("sixth stick", Yards.STATE, () -> yard.stick(1, 6, 0));
        Check.refused("sixth stick too short", Yards.ARGUMENT, () -> yard.stick(0, 6, 0));
        Check.refused("no sixth stick", Yards.INDEX, () -> yard.waste(5));
    }

    private static void piece() {
        Tenonyard yard = new Tenonyard();
        yard.node(0, 0, 'p');
        yard.node(1, 1, '-');
        yard.node(30, 30, '-');
        yard.node(2, 1, '-');
        yard.member(0, 1, 6, 0);
        yard.member(2, 0, 6, 0);
        yard.member(0, 3, 6, 0);
        yard.member(1, 3, 6, 0);
        Check.same("root of 200", yard.piece(0), 15);
        Check.same("root of 180000", yard.piece(1), 425);
        Check.same("root of 500", yard.piece(2), 23);
        Check.same("root of 100", yard.piece(3), 10);
        yard.joint(0, 1, 'f', 2, 1);
        yard.joint(0, 2, 'f', 2, 1);
        yard.joint(3, 0, 'f', 2, 1);
        Check.same("with two ends that go in", yard.piece(0), 23);
        Check.same("with none", yard.piece(1), 425);
        Check.same("with one", yard.piece(3), 14);
        for (int far : new int[] {-1, 4, 9, Integer.MAX_VALUE, Integer.MIN_VALUE}) {
            Check.refused("piece of " + far, Yards.INDEX, () -> yard.piece(far));
            Check.refused("stick of " + far, Yards.INDEX, () -> yard.stickOf(far));
        }
    }

    private static void withoutMembers() {
        Tenonyard yard = new Tenonyard();
        Check.same("wood for nothing", yard.wood(), 0);
        yard.stick(77, 6, 0);
        Check.same("wood for nothing", yard.wood(), 0);
        Check.same("waste of all", yard.waste(0), 77);
        for (int far : Yards.FAR) {
            Check.refused("waste of " + far, Yards.INDEX, () -> yard.waste(far));
        }
    }

    /** Three members, whose pieces are 10, 20 and 30 long. */
    private static Tenonyard three() {
        Tenonyard yard = new Tenonyard();
        yard.node(0, 0, 'p');
        yard.node(1, 0, '-');
        yard.node(2, 0, '-');
        yard.node(3, 0, '-');
        yard.member(0, 1, 10, 1);
        yard.member(0, 2, 10, 1);
        yard.member(0, 3, 10, 1);
        return yard;
    }

    private static void leastWood() {
        Tenonyard yard = three();
        Check.refused("wood of no stick", Yards.NONE, () -> yard.wood());
        Check.refused("stick of no stick", Yards.NONE, () -> yard.stickOf(0));
        Check.refused("waste of no stick", Yards.INDEX, () -> yard.waste(0));
        yard.stick(62, 10, 1);
        Check.refused("wood of too short a stick", Yards.NONE, () -> yard.wood());
        Check.refused("waste of too short a stick", Yards.NONE, () -> yard.waste(0));
        yard.stick(64, 10, 1);
        Check.same("one stick", yard.wood(), 64);
        Check.same("all from it", yard.waste(1), 1);
        Check.same("none from the other", yard.waste(0), 62);
        Check.same("from it", yard.stickOf(0), 1);
        yard.stick(31, 10, 1);
        Check.same("still one stick", yard.wood(), 64);
        yard.stick(32, 10, 1);
        Check.same("two sticks are shorter", yard.wood(), 63);
        Check.same("the shortest piece", yard.stickOf(0), 3);
        Check.same("the next one", yard.stickOf(1), 3);
        Check.same("the longest one", yard.stickOf(2), 2);
        yard.stick(31, 10, 1);
        Check.same("63 is still the least", yard.wood(), 63);
        Check.same("the longest one", yard.stickOf(2), 2);
        yard.joint(0, 1, 'f', 2, 1);
        Check.same("four more for the end that goes in", yard.wood(), 62 + 31);
        Check.same("the shortest piece", yard.stickOf(0), 0);
        Check.same("the next one", yard.stickOf(1), 0);
        Check.same("the longest one", yard.stickOf(2), 2);
        Check.same("waste with the end that goes in", yard.waste(0), 62 - 15 - 21);
    }

    private static void lowestSticks() {
        Tenonyard yard = three();
        yard.stick(42, 10, 1);
        yard.stick(32, 10, 1);
        yard.stick(32, 10, 1);
        yard.stick(42, 10, 1);
        Check.same("two sticks of four", yard.wood(), 64);
        Check.same("lowest for the first", yard.stickOf(0), 1);
        Check.same("lowest for the second", yard.stickOf(1), 1);
        Check.same("what is left for the third", yard.stickOf(2), 2);
        Check.same("waste", yard.waste(1), 0);
        Check.same("waste", yard.waste(2), 1);
        yard.member(0, 1, 10, 1);
        Check.same("one more member", yard.wood(), 74);
        Check.same("lowest for the first", yard.stickOf(0), 0);
        Check.same("lowest for the second", yard.stickOf(1), 1);
        Check.same("lowest for the third", yard.stickOf(2), 0);
        Check.same("lowest for the fourth", yard.stickOf(3), 1);
    }

    private static void breadthsAndGrades() {
        Tenonyard yard = three();
        yard.member(0, 1, 11, 1);
        yard.member(0, 1, 10, 2);
        yard.stick(900, 10, 2);
        Check.refused("too narrow", Yards.NONE, () -> yard.wood());
        yard.stick(800, 11, 1);
        Check.same("two sticks", yard.wood(), 1700);
        Check.same("the broad one", yard.stickOf(3), 1);
        Check.same("the good one", yard.stickOf(4), 0);
        Check.same("either one", yard.stickOf(0), 0);
        yard.stick(900, 11, 2);
        Check.same("one for all", yard.wood(), 900);
        Check.same("it", yard.stickOf(0), 2);
        yard.member(0, 1, 10, 3);
        Check.refused("not good enough", Yards.NONE, () -> yard.stickOf(0));
        Check.refused("no member", Yards.INDEX, () -> yard.stickOf(6));
    }

    private static void saw() {
        Tenonyard yard = Yards.fan('p', 1);
        yard.stick(10, 40, 3);
        Check.refused("nothing for the saw", Yards.NONE, () -> yard.wood());
        yard.stick(11, 40, 3);
        Check.same("one for the saw", yard.wood(), 11);
        Check.same("none left", yard.waste(1), 0);
        yard.stick(11, 40, 3);
        Check.same("lower stick of two", yard.stickOf(0), 1);
    }
}
