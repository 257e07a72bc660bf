/** Promises 1 to 10, 31 and 33: the frame and its forces. */
public final class FrameTests {
    public static void main(String[] args) {
        newObject();
        node();
        member();
        load();
        state();
        force();
        pull();
        bearing();
        isBalanced();
        weakest();
        sums();
        nineMembers(1);
        nineMembers(2);
        smallestDivisor();
        greatDivisor();
        longestMember();
        Check.end("FrameTests");
    }

    private static void newObject() {
        Tenonyard yard = new Tenonyard();
        Check.same("state of a new yard", yard.state(), '.');
        Check.refused("load without nodes", Yards.INDEX, () -> yard.load(0, 0, 0));
        Check.refused("piece without members", Yards.INDEX, () -> yard.piece(0));
        Check.refused("gap without joints", Yards.INDEX, () -> yard.gap(0));
        Check.refused("waste without sticks", Yards.INDEX, () -> yard.waste(0));
        Check.same("props of a new yard", yard.setProps(2), 2);
        Check.same("first node", yard.node(0, 0, '-'), 0);
        Check.same("first stick", yard.stick(1, 6, 0), 0);
        Check.same("another yard is new too", new Tenonyard().node(0, 0, 'p'), 0);
    }

    private static void node() {
        Tenonyard yard = new Tenonyard();
        Check.same("node", yard.node(0, 30, '-'), 0);
        for (int far : new int[] {-1, 31, Integer.MAX_VALUE, Integer.MIN_VALUE}) {
            Check.refused("x " + far, Yards.ARGUMENT, () -> yard.node(far, 0, '-'));
            Check.refused("y " + far, Yards.ARGUMENT, () -> yard.node(0, far, '-'));
        }
        for (char kind : new char[] {'x', 'P', 'R', ' ', 0, 0xffff, '.', 'f'}) {
            Check.refused("kind " + (int) kind, Yards.ARGUMENT, () -> yard.node(0, 0, kind));
        }
        Check.same("node", yard.node(30, 0, 'p'), 1);
        Check.same("node", yard.node(30, 0, 'r'), 2);
        for (int node = 3; node < 8; node++) {
            Check.same("node", yard.node(node, node, '-'), node);
        }
        Check.refused("ninth node", Yards.STATE, () -> yard.node(1, 1, '-'));
        Check.refused("ninth node beyond", Yards.ARGUMENT, () -> yard.node(31, 1, '-'));
        Check.refused("no ninth node", Yards.INDEX, () -> yard.load(8, 0, 0));
    }

    private static void member() {
        Tenonyard yard = new Tenonyard();
        yard.node(3, 3, '-');
        yard.node(3, 3, 'p');
        yard.node(3, 4, '-');
        for (int far : new int[] {-1, 3, 8, Integer.MAX_VALUE, Integer.MIN_VALUE}) {
            Check.refused("node " + far, Yards.INDEX, () -> yard.member(far, 0, 6, 0));
            Check.refused("other " + far, Yards.INDEX, () -> yard.member(0, far, 5, 9));
        }
        Check.refused("one node", Yards.ARGUMENT, () -> yard.member(2, 2, 6, 0));
        Check.refused("one place", Yards.ARGUMENT, () -> yard.member(0, 1, 6, 0));
        for (int breadth : new int[] {5, 41, Integer.MAX_VALUE, Integer.MIN_VALUE}) {
            Check.refused("breadth " + breadth, Yards.ARGUMENT, () -> yard.member(0, 2, breadth, 0));
        }
        for (int grade : new int[] {-1, 4, Integer.MAX_VALUE, Integer.MIN_VALUE}) {
            Check.refused("grade " + grade, Yards.ARGUMENT, () -> yard.member(0, 2, 6, grade));
        }
        Check.same("member", yard.member(0, 2, 6, 0), 0);
        Check.same("member", yard.member(2, 1, 40, 3), 1);
        for (int member = 2; member < 9; member++) {
            Check.same("member", yard.member(0, 2, 10, 1), member);
        }
        Check.refused("tenth member", Yards.STATE, () -> yard.member(0, 2, 6, 0));
        Check.refused("tenth member too thin", Yards.ARGUMENT, () -> yard.member(0, 2, 5, 0));
        Check.refused("tenth member of no node", Yards.INDEX, () -> yard.member(0, 3, 5, 0));
        Check.refused("no tenth member", Yards.INDEX, () -> yard.piece(9));
    }

    private static void load() {
        Tenonyard yard = Yards.roof();
        Check.same("first load", yard.load(2, 999, -999), 1);
        Check.same("second load", yard.load(2, -999, 999), 2);
        Check.same("first load elsewhere", yard.load(0, 0, 0), 1);
        Check.same("loads that add up to 0", yard.force(2), 0);
        for (int far : new int[] {-1, 3, 8, Integer.MAX_VALUE, Integer.MIN_VALUE}) {
            Check.refused("load on node " + far, Yards.INDEX, () -> yard.load(far, 0, 1000));
        }
        for (int far : new int[] {-1000, 1000, Integer.MAX_VALUE, Integer.MIN_VALUE}) {
            Check.refused("load right " + far, Yards.ARGUMENT, () -> yard.load(2, far, 0));
            Check.refused("load up " + far, Yards.ARGUMENT, () -> yard.load(2, 0, far));
        }
        Check.same("third load", yard.load(2, 0, -60), 3);
        Check.same("force after loads", yard.force(2), 40);
        yard.load(1, 0, 10);
        Check.same("bearing under a load", yard.bearing(1, true), 20000);
    }

    private static void state() {
        Tenonyard yard = new Tenonyard();
        Check.same("nothing", yard.state(), '.');
        yard.node(0, 0, 'p');
        Check.same("a pinned node", yard.state(), '.');
        yard.node(10, 0, 'p');
        Check.same("two pinned nodes", yard.state(), '.');
        yard.member(0, 1, 6, 0);
        Check.same("a member too many", yard.state(), 't');
        yard.node(5, 0, '-');
        Check.same("a member too few", yard.state(), 'l');
        yard.member(0, 2, 6, 0);
        Check.same("enough, but not held upward", yard.state(), 'c');
        yard.member(2, 1, 6, 0);
        Check.same("a member too many again", yard.state(), 't');
        yard.node(5, 9, 'r');
        Check.same("with a roller", yard.state(), 'c');

        Check.same("roof", Yards.roof().state(), '.');
        Tenonyard free = new Tenonyard();
        free.node(0, 0, '-');
        Check.same("a free node", free.state(), 'l');
        Tenonyard roller = new Tenonyard();
        roller.node(0, 0, 'r');
        Check.same("a roller", roller.state(), 'l');
        roller.node(4, 0, 'p');
        roller.member(0, 1, 6, 0);
        Check.same("a roller held by a member", roller.state(), '.');
        Tenonyard upright = new Tenonyard();
        upright.node(0, 0, 'r');
        upright.node(0, 4, 'p');
        upright.member(0, 1, 6, 0);
        Check.same("a roller below a pinned node", upright.state(), 'c');
    }

    private static void force() {
        Tenonyard yard = Yards.roof();
        yard.load(2, 30, -60);
        Check.same("force 31.25 that pushes", yard.force(0), -31);
        Check.same("force 68.75 that pushes", yard.force(1), -68);
        Check.same("force that pulls", yard.force(2), 55);
        for (int far : new int[] {-1, 3, Integer.MAX_VALUE, Integer.MIN_VALUE}) {
            Check.refused("force of " + far, Yards.INDEX, () -> yard.force(far));
        }
        yard.node(1, 1, '-');
        Check.refused("force if loose", Yards.STATE, () -> yard.force(0));
        Check.refused("force of no member if loose", Yards.INDEX, () -> yard.force(3));

        Tenonyard slight = corner(1, 1);
        slight.load(0, 0, 1);
        Check.same("force that is the root of 2, rounded down", slight.force(1), 1);
        Check.same("force that pushes", slight.force(0), -1);
        Tenonyard slighter = new Tenonyard();
        slighter.node(0, 0, 'p');
        slighter.node(30, 0, 'r');
        slighter.node(1, 1, '-');
        slighter.member(0, 1, 6, 0);
        slighter.member(0, 2, 6, 0);
        slighter.member(1, 2, 6, 0);
        slighter.load(2, 0, -1);
        Check.same("force below 1 that pushes", slighter.force(2), 0);
        Check.same("force below 1 that pulls", slighter.force(0), 0);
    }

    /** Node 0 free, tied to the right to a pinned node, and to one across. */
    private static Tenonyard corner(int across, int down) {
        Tenonyard yard = new Tenonyard();
        yard.node(0, down, '-');
        yard.node(across, down, 'p');
        yard.node(across, 0, 'p');
        yard.member(0, 1, 6, 0);
        yard.member(0, 2, 6, 0);
        return yard;
    }

    private static void pull() {
        Tenonyard yard = corner(3, 7);
        yard.load(0, 0, 1);
        Check.same("pull of a seventh", yard.pull(1), 142);
        Check.same("push of a seventh", yard.pull(0), -143);
        yard.load(0, 0, -2);
        Check.same("push of a seventh", yard.pull(1), -143);
        Check.same("pull of a seventh", yard.pull(0), 142);
        for (int far : new int[] {-1, 2, Integer.MAX_VALUE, Integer.MIN_VALUE}) {
            Check.refused("pull of " + far, Yards.INDEX, () -> yard.pull(far));
        }
        yard.member(0, 2, 6, 0);
        Check.refused("pull if tied too often", Yards.STATE, () -> yard.pull(0));
        Check.refused("pull of no member", Yards.INDEX, () -> yard.pull(3));
    }

    private static void bearing() {
        Tenonyard yard = Yards.roof();
        yard.load(2, 30, -60);
        Check.same("bearing right", yard.bearing(0, false), -30000);
        Check.same("bearing up", yard.bearing(0, true), 18750);
        Check.same("bearing of a roller", yard.bearing(1, true), 41250);
        Check.same("no bearing of a roller to the right", yard.bearing(1, false), 0);
        Check.same("no bearing of a free node", yard.bearing(2, true), 0);
        Check.same("no bearing of a free node", yard.bearing(2, false), 0);
        Tenonyard corner = corner(3, 7);
        corner.load(0, 0, 1);
        Check.same("bearing of three sevenths", corner.bearing(1, false), -429);
        Check.same("bearing of three sevenths", corner.bearing(2, false), 428);
        corner.load(1, -20, 30);
        Check.same("a pinned node bears its own load", corner.bearing(1, true), -30000);
        for (int far : new int[] {-1, 3, Integer.MAX_VALUE, Integer.MIN_VALUE}) {
            Check.refused("bearing of " + far, Yards.INDEX, () -> yard.bearing(far, true));
        }
        yard.node(9, 9, '-');
        Check.refused("bearing if loose", Yards.STATE, () -> yard.bearing(2, false));
        Check.refused("bearing of no node if loose", Yards.INDEX, () -> yard.bearing(4, false));
    }

    private static void isBalanced() {
        Tenonyard yard = Yards.roof();
        yard.load(2, 31, -61);
        yard.load(0, -7, 5);
        yard.load(1, 3, 3);
        Tenonyard turned = corner(1, 1);
        turned.load(0, 5, 7);
        Tenonyard back = new Tenonyard();
        back.node(8, 0, 'p');
        back.node(0, 0, 'r');
        back.node(4, 3, '-');
        back.member(0, 2, 20, 1);
        back.member(1, 2, 20, 1);
        back.member(0, 1, 24, 0);
        back.load(2, 100, -50);
        for (int x = 0; x <= 30; x++) {
            Check.yes("section at " + x, yard.isBalanced(x));
            Check.yes("section of a corner at " + x, turned.isBalanced(x));
            Check.yes("section of a roof turned round at " + x, back.isBalanced(x));
        }
        yard.node(9, 9, '-');
        for (int far : new int[] {-1, 31, Integer.MAX_VALUE, Integer.MIN_VALUE}) {
            Check.refused("section at " + far, Yards.ARGUMENT, () -> yard.isBalanced(far));
        }
        Check.refused("section if loose", Yards.STATE, () -> yard.isBalanced(0));
        Check.yes("section of nothing", new Tenonyard().isBalanced(0));
    }

    private static void weakest() {
        Tenonyard yard = Yards.roof();
        Check.same("weakest without loads", yard.weakest(), 0);
        yard.load(2, 30, -60);
        Check.same("weakest pushes", yard.weakest(), 1);
        yard.load(2, -60, 0);
        Check.same("weakest", yard.weakest(), 0);
        yard.load(2, 30, 0);
        Check.same("weakest of two", yard.weakest(), 0);
        yard.load(2, 0, 60);
        yard.load(1, 5, 0);
        Check.same("weakest pulls", yard.weakest(), 2);
        yard.node(1, 1, '-');
        Check.refused("weakest if loose", Yards.STATE, () -> yard.weakest());
        Check.refused("weakest without members", Yards.NONE, () -> new Tenonyard().weakest());
        Tenonyard loose = new Tenonyard();
        loose.node(0, 0, '-');
        Check.refused("weakest without members if loose", Yards.STATE, () -> loose.weakest());
        Tenonyard near = corner(1, 1);
        near.load(0, 0, 1);
        Check.same("forces 1 and 1.4 tell the same", near.weakest(), 0);
    }

    private static void sums() {
        Tenonyard yard = Yards.roof();
        yard.load(2, 30, -60);
        Check.same("sum of forces", yard.allForce(), 31 + 68 + 55);
        Check.same("mean pull", yard.meanPull(), (-6250 - 13750 + 6875) / 3.0);
        Tenonyard corner = corner(3, 7);
        corner.load(0, 0, 1);
        Check.same("mean of pulls that are rounded down", corner.meanPull(), -0.5);
        Check.same("sum of no forces", new Tenonyard().allForce(), 0);
        Check.refused("mean of no pulls", Yards.ARITHMETIC, () -> new Tenonyard().meanPull());
        Tenonyard loose = new Tenonyard();
        loose.node(0, 0, '-');
        Check.refused("mean of no pulls if loose", Yards.STATE, () -> loose.meanPull());
        Check.refused("sum of forces if loose", Yards.STATE, () -> loose.allForce());
    }

    /** A beam of four triangles, with a load at the middle of its foot: forces stay when all is longer. */
    private static void nineMembers(int scale) {
        Tenonyard yard = new Tenonyard();
        int[][] nodes = {{0, 0}, {6, 0}, {12, 0}, {3, 4}, {9, 4}, {15, 4}};
        int[][] members = {{0, 1}, {1, 2}, {3, 4}, {4, 5}, {0, 3}, {3, 1}, {1, 4}, {4, 2}, {2, 5}};
        for (int[] node : nodes) {
            char ofFoot = node[0] == 0 ? 'p' : node[0] == 12 ? 'r' : '-';
            yard.node(scale * node[0], scale * node[1], node[1] > 0 ? '-' : ofFoot);
        }
        for (int[] member : members) {
            yard.member(member[0], member[1], 12, 0);
        }
        yard.load(1, 0, -80);
        long[] due = {30, 30, -60, 0, -50, 50, 50, -50, 0};
        for (int member = 0; member < due.length; member++) {
            Check.same("force " + member + " of nine", yard.force(member), due[member]);
        }
        Check.same("pull", yard.pull(2), -10000 / scale);
        Check.same("pull", yard.pull(4), -10000 / scale);
        Check.same("bearing", yard.bearing(0, true), 40000);
        Check.same("bearing", yard.bearing(2, true), 40000);
        Check.same("weakest of nine", yard.weakest(), 2);
        Check.same("sum of nine", yard.allForce(), 320);
        yard.load(1, 0, -80);
        yard.load(1, 0, 79);
        Check.same("a little more", yard.force(4), -50);
        Check.same("a little more", yard.force(1), 30);
        Check.same("a little more", yard.force(2), -60);
        yard.load(1, 0, 3);
        Check.same("a little less", yard.force(4), -48);
        Check.same("a little less", yard.force(1), 29);
        Check.same("a little less", yard.force(2), -58);
        yard.load(1, 0, -2);
        yard.load(5, 0, -10);
        Check.same("the last one", yard.force(8), -12);
        Check.same("the last but five", yard.force(3), 7);
        Check.yes("nine are sound", yard.isSound());
    }

    private static void smallestDivisor() {
        for (int right = 0; right < 3; right += 2) {
            Tenonyard yard = new Tenonyard();
            yard.node(1, 0, 'p');
            yard.node(right, 0, 'r');
            yard.member(0, 1, 6, 0);
            yard.load(1, 7, 0);
            Check.same("pull", yard.pull(0), right == 0 ? -7000 : 7000);
            Check.same("force", yard.force(0), right == 0 ? -7 : 7);
            Check.same("bearing", yard.bearing(0, false), -7000);
        }
    }

    /** Eight members 29 long, upright and level, so that forces are just the loads over a divisor of 29 to the 8th. */
    private static void greatDivisor() {
        Tenonyard yard = new Tenonyard();
        int[][] nodes = {{0, 0}, {29, 29}, {1, 1}, {30, 30}, {29, 0}, {0, 29}, {30, 1}, {1, 30}};
        int[][] members = {{0, 4}, {0, 5}, {1, 5}, {1, 4}, {2, 6}, {2, 7}, {3, 7}, {3, 6}};
        for (int node = 0; node < 8; node++) {
            yard.node(nodes[node][0], nodes[node][1], node < 4 ? '-' : 'p');
        }
        for (int[] member : members) {
            yard.member(member[0], member[1], 6, 0);
        }
        for (int load = 1; load < 60; load++) {
            for (int node = 0; node < 4; node++) {
                yard.load(node, node % 2 == 0 ? 1 : -1, node % 2 == 0 ? -1 : 1);
            }
            for (int member = 0; member < 8 && load % 4 == 0; member++) {
                Check.same("force level or upright", yard.force(member), member % 2 == 0 ? -load : load);
            }
        }
        Check.same("pull", yard.pull(7), 2034);
        Check.same("push", yard.pull(6), -2035);
    }

    private static void longestMember() {
        Tenonyard yard = corner(30, 30);
        for (int load = 0; load < 30; load++) {
            yard.load(0, 0, 999);
        }
        Check.same("pull", yard.pull(1), 999000);
        Check.same("999 times the root of 1800", yard.force(1), 42383);
        Check.same("force to the right", yard.force(0), -29970);
    }
}
