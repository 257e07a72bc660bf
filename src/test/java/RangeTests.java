import java.util.function.BiConsumer;
import java.util.function.IntConsumer;

/**
 * Every number, sign and index that a call takes: the least and the greatest one that the document allows, all
 * between, and the first ones outside on both sides; and how many nodes, members, joints and sticks there can be.
 */
public final class RangeTests {
    private static final int[] FAR = {Integer.MIN_VALUE, Integer.MIN_VALUE + 1, -65536, -256, 256, 65536,
        Integer.MAX_VALUE - 1, Integer.MAX_VALUE};

    public static void main(String[] args) {
        placesOfNodes();
        breadthsAndGradesOfMembers();
        loads();
        sections();
        thicknessesAndMarks();
        moistures();
        sticks();
        props();
        kinds();
        ways();
        nodeIndexes();
        memberIndexes();
        jointIndexes();
        stickIndexes();
        orderIndexes();
        mostNodes();
        mostMembers();
        mostJoints();
        mostSticks();
        Check.end("RangeTests");
    }

    /** The call is made with each number on a yard of its own, as one that is taken may leave no room for the next. */
    private static void range(String what, int least, int greatest, IntConsumer call) {
        for (int number = least; number <= greatest; number++) {
            int taken = number;
            Check.taken(what + " " + taken, () -> call.accept(taken));
        }
        Check.refused(what + " one too small", Yards.ARGUMENT, () -> call.accept(least - 1));
        Check.refused(what + " one too great", Yards.ARGUMENT, () -> call.accept(greatest + 1));
        for (int far : FAR) {
            if (far < least || far > greatest) {
                Check.refused(what + " " + far, Yards.ARGUMENT, () -> call.accept(far));
            }
        }
    }

    /** "each at whole numbers x and y from 0 to 30" */
    private static void placesOfNodes() {
        for (char kind : new char[] {'-', 'p', 'r'}) {
            range("x of " + kind, 0, 30, x -> new Tenonyard().node(x, 15, kind));
            range("y of " + kind, 0, 30, y -> new Tenonyard().node(15, y, kind));
        }
        Check.taken("both least", () -> new Tenonyard().node(0, 0, '-'));
        Check.taken("both greatest", () -> new Tenonyard().node(30, 30, '-'));
    }

    /** "a breadth from 6 to 40 and a grade from 0 to 3 that it needs" */
    private static void breadthsAndGradesOfMembers() {
        range("breadth", 6, 40, breadth -> bareRoof().member(0, 1, breadth, 2));
        range("grade", 0, 3, grade -> bareRoof().member(0, 1, 20, grade));
        Check.taken("both least", () -> bareRoof().member(0, 1, 6, 0));
        Check.taken("both greatest", () -> bareRoof().member(0, 1, 40, 3));
    }

    /** "to the right, -999 to 999", "upward, -999 to 999" */
    private static void loads() {
        range("load to the right", -999, 999, right -> bareRoof().load(1, right, 5));
        range("load upward", -999, 999, up -> bareRoof().load(1, 5, up));
        Check.taken("both least", () -> bareRoof().load(0, -999, -999));
        Check.taken("both greatest", () -> bareRoof().load(0, 999, 999));
    }

    /** "the place of the section, 0 to 30" */
    private static void sections() {
        range("section", 0, 30, x -> Check.yes("balance at " + x, Yards.roof().isBalanced(x)));
        range("section of nothing", 0, 30, x -> Check.yes("balance at " + x, new Tenonyard().isBalanced(x)));
    }

    /** "It has a thickness from 2 to 20, and a mark from 1 to 31." */
    private static void thicknessesAndMarks() {
        range("thickness", 2, 20, thickness -> Yards.roof().joint(0, 1, 'u', thickness, 9));
        range("mark", 1, 31, mark -> Yards.roof().joint(0, 1, 'u', 9, mark));
        Check.taken("both least", () -> Yards.roof().joint(0, 1, 'u', 2, 1));
        Check.taken("both greatest", () -> Yards.roof().joint(0, 1, 'u', 20, 31));
    }

    /** "both in hundredths, from 10 to 60; 30 and 30 at first" */
    private static void moistures() {
        range("moisture as cut", 10, 60, moisture -> Yards.roof().cutAt(1, moisture));
        range("moisture dried to", 10, 60, moisture -> Yards.roof().dry(1, moisture));
    }

    /** "each with a length from 1 to 900, a breadth, and a grade from 0 to 3", "its breadth, 6 to 40" */
    private static void sticks() {
        range("length of a stick", 1, 900, length -> new Tenonyard().stick(length, 20, 2));
        range("breadth of a stick", 6, 40, breadth -> new Tenonyard().stick(500, breadth, 2));
        range("grade of a stick", 0, 3, grade -> new Tenonyard().stick(500, 20, grade));
        Check.taken("all least", () -> new Tenonyard().stick(1, 6, 0));
        Check.taken("all greatest", () -> new Tenonyard().stick(900, 40, 3));
    }

    /** "how many, 0 to 9" */
    private static void props() {
        range("props", 0, 9, props -> new Tenonyard().setProps(props));
    }

    /** "'-' free, 'p' pinned, 'r' on a roller", and no other sign. */
    private static void kinds() {
        for (int sign = 0; sign <= Character.MAX_VALUE; sign++) {
            char kind = (char) sign;
            Tenonyard yard = new Tenonyard();
            if ("-pr".indexOf(kind) >= 0) {
                Check.same("node of kind " + kind, yard.node(1, 1, kind), 0);
            } else {
                Check.refused("kind " + sign, Yards.ARGUMENT, () -> yard.node(1, 1, kind));
            }
        }
    }

    /** "'u' upward, 'd' downward, 'l' to the left, 'r' to the right, or 'f' from the front", and no other sign. */
    private static void ways() {
        for (int sign = 0; sign <= Character.MAX_VALUE; sign++) {
            char way = (char) sign;
            Tenonyard yard = Yards.roof();
            if ("udlrf".indexOf(way) >= 0) {
                Check.same("joint by " + way, yard.joint(0, 1, way, 2, 1), 0);
            } else {
                Check.refused("way " + sign, Yards.ARGUMENT, () -> yard.joint(0, 1, way, 2, 1));
            }
        }
    }

    private static Tenonyard bareRoof() {
        Tenonyard yard = new Tenonyard();
        yard.node(0, 0, 'p');
        yard.node(8, 0, 'r');
        return yard;
    }

    /** Each index of a thing that is there is taken, and none beyond, by a call on a yard with so many things. */
    private static void indexes(String what, int count, Tenonyard yard, BiConsumer<Tenonyard, Integer> call) {
        String text = what + " of " + count;
        for (int index = 0; index < count; index++) {
            int taken = index;
            Check.taken(text + ": " + taken, () -> call.accept(yard, taken));
        }
        Check.refused(text + ": -1", Yards.INDEX, () -> call.accept(yard, -1));
        Check.refused(text + ": " + count, Yards.INDEX, () -> call.accept(yard, count));
        for (int far : FAR) {
            Check.refused(text + ": " + far, Yards.INDEX, () -> call.accept(yard, far));
        }
    }

    /** So many pinned nodes beside one another, a frame that stands. */
    private static Tenonyard pinned(int count) {
        Tenonyard yard = new Tenonyard();
        for (int node = 0; node < count; node++) {
            yard.node(node, 0, 'p');
        }
        return yard;
    }

    /** "if there is no such node", also "for either" */
    private static void nodeIndexes() {
        for (int count : new int[] {0, 1, 2, 7, 8}) {
            indexes("load on a node", count, pinned(count), (yard, node) -> yard.load(node, 1, 1));
            indexes("bearing of a node", count, pinned(count), (yard, node) -> yard.bearing(node, true));
            indexes("bearing of a node", count, pinned(count), (yard, node) -> yard.bearing(node, false));
        }
        for (int count : new int[] {2, 3, 7, 8}) {
            indexes("member from a node", count, pinned(count), (yard, node) -> yard.member(node, node == 0 ? 1 : 0, 6, 0));
            indexes("member to a node", count, pinned(count), (yard, node) -> yard.member(node == 0 ? 1 : 0, node, 6, 0));
        }
        for (int count : new int[] {0, 1}) {
            Tenonyard yard = pinned(count);
            Check.refused("member with " + count + " nodes", Yards.INDEX, () -> yard.member(0, 1, 6, 0));
            Check.refused("member with " + count + " nodes", Yards.INDEX, () -> yard.member(1, 0, 6, 0));
        }
    }

    /** So many rollers about one pinned node, a member to each: they stand. One stick is enough for all. */
    private static Tenonyard standing(int count) {
        Tenonyard yard = new Tenonyard();
        yard.node(10, 10, 'p');
        for (int member = 0; member < Math.min(count, 7); member++) {
            yard.node(11 + member, 10, 'r');
            yard.member(0, 1 + member, 12, 0);
        }
        yard.stick(900, 40, 3);
        return yard;
    }

    /** "if there is no such member", also "for either" */
    private static void memberIndexes() {
        for (int count : new int[] {0, 1, 2, 7, 9}) {
            Tenonyard made = count == 9 ? Yards.full() : standing(count);
            indexes("force", count, made, (yard, member) -> yard.force(member));
            indexes("pull", count, made, (yard, member) -> yard.pull(member));
            indexes("piece", count, made, (yard, member) -> yard.piece(member));
            indexes("stick of a member", count, made, (yard, member) -> yard.stickOf(member));
            indexes("cut", count, made, (yard, member) -> yard.cutAt(member, 10));
            indexes("dry", count, made, (yard, member) -> yard.dry(member, 10));
        }
        for (int count : new int[] {3, 8, 9}) {
            indexes("joint of a member", count, Yards.fan('p', count),
                    (yard, member) -> yard.joint(member, Math.floorMod(member + 1, count), 'f', 2, 1));
            indexes("joint into a member", count, Yards.fan('p', count),
                    (yard, member) -> yard.joint(Math.floorMod(member + 1, count), member, 'f', 2, 1));
        }
        for (int count : new int[] {0, 1}) {
            Tenonyard yard = standing(count);
            Check.refused("joint with " + count + " members", Yards.INDEX, () -> yard.joint(0, 1, 'f', 2, 1));
            Check.refused("joint with " + count + " members", Yards.INDEX, () -> yard.joint(1, 0, 'f', 2, 1));
        }
    }

    /** So many joints among six members with one node in common. */
    private static Tenonyard joined(int count) {
        Tenonyard yard = Yards.fan('p', 6);
        int made = 0;
        for (int member = 1; member < 6; member++) {
            for (int into = 0; into < member && made < count; into++) {
                yard.joint(member, into, 'f', 2, 1);
                made++;
            }
        }
        return yard;
    }

    /** "if there is no such joint" */
    private static void jointIndexes() {
        for (int count : new int[] {0, 1, 2, 11, 12}) {
            Tenonyard made = joined(count);
            indexes("right", count, made, (yard, joint) -> yard.isRight(joint));
            indexes("misread", count, made, (yard, joint) -> yard.misread(joint));
            indexes("gap", count, made, (yard, joint) -> yard.gap(joint));
        }
    }

    /** "if there is no such stick" */
    private static void stickIndexes() {
        for (int count = 0; count <= 5; count++) {
            Tenonyard made = new Tenonyard();
            for (int stick = 0; stick < count; stick++) {
                made.stick(100 + stick, 10, 0);
            }
            indexes("waste", count, made, (yard, stick) -> Check.same("waste", yard.waste(stick), 100 + stick));
        }
    }

    /** "the index, from 0", "if there is no such index" */
    private static void orderIndexes() {
        for (int count = 0; count <= 9; count++) {
            Tenonyard made = Yards.fan('p', count);
            indexes("raised", count, made, (yard, index) -> yard.raised(index));
            indexes("props", count, made, (yard, index) -> yard.props(index));
        }
    }

    /** "At most 8 nodes are numbered from 0", "if there are 8" */
    private static void mostNodes() {
        for (char kind : new char[] {'-', 'p', 'r'}) {
            Tenonyard yard = new Tenonyard();
            for (int node = 0; node < 8; node++) {
                Check.same("number of a node", yard.node(3, 3, kind), node);
            }
            for (char ninth : new char[] {'-', 'p', 'r'}) {
                Check.refused("ninth node", Yards.STATE, () -> yard.node(0, 30, ninth));
            }
            Check.same("the last node is there", yard.load(7, 0, 0), 1);
            Check.refused("the ninth one is not", Yards.INDEX, () -> yard.load(8, 0, 0));
        }
    }

    /** "At most 9 members are numbered from 0", "if there are 9" */
    private static void mostMembers() {
        Tenonyard yard = pinned(8);
        for (int member = 0; member < 9; member++) {
            Check.same("number of a member", yard.member(member % 7, 7, 6, 0), member);
        }
        Check.refused("tenth member", Yards.STATE, () -> yard.member(0, 7, 6, 0));
        Check.refused("tenth member once more", Yards.STATE, () -> yard.member(6, 1, 40, 3));
        Check.same("the last member is there", yard.cutAt(8, 10), 30);
        Check.refused("the tenth one is not", Yards.INDEX, () -> yard.cutAt(9, 10));
    }

    /** "At most 12 joints are numbered from 0", "if there are 12" */
    private static void mostJoints() {
        Tenonyard yard = Yards.fan('p', 6);
        int made = 0;
        for (int member = 1; member < 6; member++) {
            for (int into = 0; into < member; into++) {
                int going = member;
                int receiving = into;
                if (made < 12) {
                    Check.same("number of a joint", yard.joint(going, receiving, 'f', 2, 1), made++);
                } else {
                    Check.refused("thirteenth joint", Yards.STATE, () -> yard.joint(going, receiving, 'f', 2, 1));
                }
            }
        }
        Check.same("the last joint is there", yard.misread(11), 16);
        Check.refused("the thirteenth one is not", Yards.INDEX, () -> yard.misread(12));
    }

    /** "At most 5 sticks are numbered from 0", "if there are 5" */
    private static void mostSticks() {
        Tenonyard yard = new Tenonyard();
        for (int stick = 0; stick < 5; stick++) {
            Check.same("number of a stick", yard.stick(900 - stick, 40, 3), stick);
        }
        Check.refused("sixth stick", Yards.STATE, () -> yard.stick(1, 6, 0));
        Check.refused("sixth stick once more", Yards.STATE, () -> yard.stick(900, 40, 3));
        Check.same("the last stick is there", yard.waste(4), 896);
        Check.refused("the sixth one is not", Yards.INDEX, () -> yard.waste(5));
    }
}
