/**
 * The sentences of the document that say what holds at an edge, in its order, each with a test of its own: what is
 * just enough and one less, none and the most, equal ones, roundings at both sides of 0.
 */
public final class EdgeTests {
    private static final String WAYS = "udlrf";
    private static final String TURNED = "durlf";

    public static void main(String[] args) {
        frame();
        joints();
        yard();
        raising();
        Check.end("EdgeTests");
    }

    private static void frame() {
        newObject();
        lastCall();
        rollerAlone();
        countOfLoads();
        mostLoads();
        stateByNumbers();
        eachForce();
        eachPull();
        slightPull();
        eachBearing();
        noBearing();
        sectionAtNodes();
        weakestOfEqual();
        sumOfAmounts();
        meanOfRounded();
    }

    private static void joints() {
        oneJointOfTwo();
        nodeInCommon();
        eachThird();
        eachMark();
        eachPairOfMarks();
        mostClashes();
        moistureBefore();
        notDrier();
        widestOfEqual();
        eachShare();
    }

    private static void yard() {
        eachPiece();
        mostEnds();
        justLongEnough();
        justBroadAndGood();
        nothingToCut();
        sawBehindEach();
        mostFromAll();
        shortestTogether();
        lowestOfEqual();
    }

    private static void raising() {
        propsAtFirst();
        eachWayIn();
        onGround();
        fewerThanTwo();
        atMostAsTold();
        orderWithoutMembers();
        firstByNumbers();
        propsOfTheOrder();
        eachStuck();
        bothWaysTellTheSame();
        soundInEachState();
    }

    /** "Creates a yard without nodes, members and sticks." No yard knows of another one. */
    private static void newObject() {
        Tenonyard used = Yards.full();
        Check.same("a new yard beside a full one", Answers.all(new Tenonyard()), (Object) Answers.all(new Model()));
        Check.same("the first node", new Tenonyard().node(9, 9, 'r'), 0);
        Check.same("the full one is as before", Answers.all(used), (Object) Answers.all(Yards.full()));
    }

    /** "An object is used for at most 512 calls": the last one still answers right. */
    private static void lastCall() {
        Tenonyard yard = corner(1, 1);
        for (int call = 6; call <= 511; call++) {
            Check.same("loads", yard.load(0, 0, 1), call - 5);
        }
        Check.same("the 512th call", yard.pull(1), 506000);
    }

    /** Node 0 free, tied to the right to a pinned node, and to one across: an upward load there is pull 1 times down. */
    private static Tenonyard corner(int across, int down) {
        Tenonyard yard = new Tenonyard();
        yard.node(0, down, '-');
        yard.node(across, down, 'p');
        yard.node(across, 0, 'p');
        yard.member(0, 1, 6, 0);
        yard.member(0, 2, 6, 0);
        return yard;
    }

    /** "on a roller, which bears upward or downward alone", "one on a roller that upward" */
    private static void rollerAlone() {
        for (int up = -999; up <= 999; up += 111) {
            Tenonyard yard = new Tenonyard();
            yard.node(0, 5, 'r');
            yard.node(6, 5, 'p');
            yard.member(0, 1, 6, 0);
            yard.load(0, up, up);
            Check.same("bearing of a roller", yard.bearing(0, true), -1000L * up);
            Check.same("none to the right", yard.bearing(0, false), 0);
            Check.same("that of the pinned node", yard.bearing(1, false), -1000L * up);
            Check.same("none upward there", yard.bearing(1, true), 0);
        }
    }

    /** "Returns how many loads were added to this node", those that are 0 too, refused ones not. */
    private static void countOfLoads() {
        Tenonyard yard = new Tenonyard();
        for (int node = 0; node < 8; node++) {
            yard.node(node, 0, 'p');
        }
        for (int node = 7; node >= 0; node--) {
            int loaded = node;
            for (int count = 1; count <= node + 1; count++) {
                Check.same("loads of " + node, yard.load(node, 0, 0), count);
                Check.refused("load", Yards.ARGUMENT, () -> yard.load(loaded, 0, -1000));
            }
        }
        Check.same("loads of the last one", yard.load(7, -1, 1), 9);
        Check.same("loads of the first one", yard.load(0, -1, 1), 2);
    }

    /** "Loads on nodes are added up": as many of the greatest as calls allow. */
    private static void mostLoads() {
        for (int sign = -1; sign <= 1; sign += 2) {
            Tenonyard yard = new Tenonyard();
            yard.node(3, 3, 'p');
            for (int load = 0; load < 500; load++) {
                yard.load(0, 999 * sign, -999 * sign);
            }
            Check.same("to the right", yard.bearing(0, false), -499_500_000L * sign);
            Check.same("upward", yard.bearing(0, true), 499_500_000L * sign);
            yard.load(0, -1, 1);
            Check.same("one less to the right", yard.bearing(0, false), -499_500_000L * sign + 1000);
            Check.yes("all of them are in balance", yard.isBalanced(3));
        }
    }

    /** "If pulls and bearings are fewer than twice the nodes [..]; if they are more [..]; otherwise [..]" */
    private static void stateByNumbers() {
        for (int nodes = 0; nodes <= 8; nodes++) {
            Check.same(nodes + " pinned nodes", without(nodes, 'p').state(), '.');
            Check.same(nodes + " rollers", without(nodes, 'r').state(), nodes == 0 ? '.' : 'l');
            Check.same(nodes + " free nodes", without(nodes, '-').state(), nodes == 0 ? '.' : 'l');
        }
        for (int pinned = 2; pinned <= 7; pinned++) {
            Tenonyard yard = without(pinned, 'p');
            yard.node(20, 20, '-');
            Check.same("no member of two", yard.state(), 'l');
            yard.member(0, pinned, 6, 0);
            Check.same("one member of two", yard.state(), 'l');
            yard.member(1, pinned, 6, 0);
            Check.same("two members of two", yard.state(), '.');
            for (int more = 3; more <= 9; more++) {
                yard.member(0, 1, 6, 0);
                Check.same(more + " members of two", yard.state(), 't');
            }
        }
        Check.same("two at the wrong place", astray(2).state(), 'c');
        Check.same("one at the wrong place", astray(1).state(), 'l');
        Check.same("three at the wrong place", astray(3).state(), 't');
        Tenonyard line = without(2, 'p');
        line.node(20, 0, '-');
        line.member(0, 2, 6, 0);
        line.member(1, 2, 6, 0);
        Check.same("two members in one line", line.state(), 'c');
        line.load(2, 5, 0);
        Check.same("no matter which loads", line.state(), 'c');
        Check.refused("no force of a critical frame", Yards.STATE, () -> line.force(0));
        Tenonyard loose = without(8, '-');
        for (int member = 0; member < 9; member++) {
            loose.member(member % 7, 7, 6, 0);
        }
        Check.same("nine members of sixteen", loose.state(), 'l');
    }

    private static Tenonyard without(int nodes, char kind) {
        Tenonyard yard = new Tenonyard();
        for (int node = 0; node < nodes; node++) {
            yard.node(node, 0, kind);
        }
        return yard;
    }

    /** A free node that nothing holds, and so many members between pinned ones. */
    private static Tenonyard astray(int members) {
        Tenonyard yard = without(2, 'p');
        yard.node(20, 20, '-');
        for (int member = 0; member < members; member++) {
            yard.member(0, 1, 6, 0);
        }
        return yard;
    }

    /** "the greatest whole number whose square is not greater than [..], with the sign of the pull" */
    private static void eachForce() {
        for (int load = -999; load <= 999; load++) {
            Tenonyard yard = corner(1, 1);
            yard.load(0, 0, load);
            Check.same("force along the root of 2", yard.force(1), load < 0 ? -root(2 * load * load) : root(2 * load * load));
            Check.same("force along a side", yard.force(0), -load);
        }
        for (int load = -50; load <= 50; load++) {
            Tenonyard yard = corner(3, 4);
            yard.load(0, 0, load);
            int due = Math.abs(load) * 5 / 4;
            Check.same("five quarters of " + load, yard.force(1), load < 0 ? -due : due);
        }
    }

    private static int root(int square) {
        int root = 0;
        while ((root + 1) * (root + 1) <= square) {
            root++;
        }
        return root;
    }

    /** "Returns the pull in thousandths, rounded down", which below 0 is away from 0. */
    private static void eachPull() {
        for (int down = 1; down <= 30; down++) {
            for (int load = -31; load <= 31; load++) {
                Tenonyard yard = corner(7, down);
                yard.load(0, 0, load);
                Check.same("pull " + load + "/" + down, yard.pull(1), Math.floorDiv(1000 * load, down));
                Check.same("pull " + -load + "/" + down, yard.pull(0), Math.floorDiv(-1000 * load, down));
            }
        }
    }

    /** A pull below a thousandth is 0 thousandths if above 0, and -1 if below; the force is 0 in both. */
    private static void slightPull() {
        for (int load = -1; load <= 1; load++) {
            Tenonyard yard = new Tenonyard();
            int[][] places = {{0, 0}, {30, 1}, {1, 30}, {0, 2}, {29, 30}};
            for (int node = 0; node < 5; node++) {
                yard.node(places[node][0], places[node][1], node < 2 ? '-' : 'p');
            }
            yard.member(0, 1, 6, 0);
            yard.member(0, 2, 6, 0);
            yard.member(1, 3, 6, 0);
            yard.member(1, 4, 6, 0);
            yard.load(0, 0, load);
            Check.same("slight pull of " + load, yard.pull(3), load < 0 ? -1 : 0);
            Check.same("slight force of " + load, yard.force(3), 0);
            Check.same("pull of 30/899", yard.pull(1), load == 0 ? 0 : load < 0 ? 33 : -34);
            Check.same("the one with a force of 1", yard.weakest(), load == 0 ? 0 : 1);
        }
    }

    /** "Returns the bearing in thousandths, rounded down" */
    private static void eachBearing() {
        for (int load = -31; load <= 31; load++) {
            Tenonyard yard = corner(3, 7);
            yard.load(0, 0, load);
            Check.same("bearing at the side", yard.bearing(1, false), Math.floorDiv(-3000 * load, 7));
            Check.same("bearing across", yard.bearing(2, false), Math.floorDiv(3000 * load, 7));
            Check.same("bearing upward", yard.bearing(2, true), -1000L * load);
        }
    }

    /** "0 if it has none", though loads are on the node. */
    private static void noBearing() {
        Tenonyard yard = Yards.roof();
        yard.load(1, 17, 19);
        yard.load(2, 23, 29);
        Check.same("roller to the right", yard.bearing(1, false), 0);
        Check.same("free node to the right", yard.bearing(2, false), 0);
        Check.same("free node upward", yard.bearing(2, true), 0);
    }

    /** "for all nodes whose x is at most this": before the first node, at each one, between, and behind the last. */
    private static void sectionAtNodes() {
        for (int place = 0; place <= 22; place++) {
            Tenonyard yard = new Tenonyard();
            yard.node(place, 0, 'p');
            yard.node(place + 8, 0, 'r');
            yard.node(place + 4, 3, '-');
            yard.node(place, 0, 'p');
            yard.member(2, 0, 20, 1);
            yard.member(1, 2, 20, 1);
            yard.member(1, 0, 24, 0);
            yard.load(2, 7, -11);
            yard.load(0, 13, 17);
            yard.load(3, -19, 23);
            for (int x = 0; x <= 30; x++) {
                Check.yes("section at " + x + " of a roof at " + place, yard.isBalanced(x));
            }
        }
    }

    /** "the greatest amount of its force, as told by force(), of several the lowest one" */
    private static void weakestOfEqual() {
        Tenonyard none = Yards.full();
        none.load(7, -50, 120);
        none.load(6, 30, 77);
        none.load(3, -10, -10);
        none.load(5, 0, -1);
        Check.same("all forces are 0", none.weakest(), 0);
        for (int load = -2; load <= 2; load += 4) {
            Tenonyard yard = new Tenonyard();
            yard.node(5, 5, 'r');
            yard.node(15, 5, 'r');
            yard.node(25, 5, 'r');
            yard.node(10, 5, 'p');
            yard.member(0, 3, 6, 0);
            yard.member(1, 3, 6, 0);
            yard.member(2, 3, 6, 0);
            yard.load(1, load, 0);
            yard.load(2, -load, 0);
            Check.same("pulls and pushes as much", yard.weakest(), 1);
            yard.load(2, -load, 0);
            Check.same("the last one", yard.weakest(), 2);
            yard.load(0, 2 * load, 0);
            Check.same("the first one, as much", yard.weakest(), 0);
        }
    }

    /** "Returns the sum of the amounts of all forces": each rounded before, each without its sign. */
    private static void sumOfAmounts() {
        for (int load = -99; load <= 99; load++) {
            Tenonyard yard = corner(1, 1);
            yard.load(0, 0, load);
            Check.same("sum of two", yard.allForce(), root(2 * load * load) + Math.abs(load));
        }
        Check.same("sum of none", without(8, 'p').allForce(), 0);
    }

    /** "the sum of all pulls in thousandths, each rounded down, divided by their number" */
    private static void meanOfRounded() {
        for (int members = 1; members <= 7; members++) {
            Tenonyard yard = new Tenonyard();
            yard.node(0, 0, 'p');
            double sum = 0;
            for (int member = 0; member < members; member++) {
                yard.node(7 + member, 0, 'r');
                yard.member(0, 1 + member, 6, 0);
                int load = member % 2 == 0 ? 10 + member : -20 - member;
                yard.load(1 + member, load, 0);
                sum += Math.floorDiv(1000 * load, 7 + member);
            }
            Check.same("mean of " + members, yard.meanPull(), (Object) (sum / members));
        }
        Check.refused("mean of none", Yards.ARITHMETIC, () -> without(8, 'p').meanPull());
    }

    /** "two members have at most one joint", whichever goes in, and by whichever way. */
    private static void oneJointOfTwo() {
        for (char first : WAYS.toCharArray()) {
            for (char second : WAYS.toCharArray()) {
                Tenonyard yard = Yards.fan('p', 3);
                yard.joint(0, 1, first, 2, 1);
                Check.refused("once more", Yards.UNSUPPORTED, () -> yard.joint(0, 1, second, 3, 2));
                Check.refused("the other way round", Yards.UNSUPPORTED, () -> yard.joint(1, 0, second, 3, 2));
                Check.same("with a third one", yard.joint(2, 1, second, 3, 2), 1);
            }
        }
    }

    /** "another member, which has a node in common with it": first or second node of each; one place is not enough. */
    private static void nodeInCommon() {
        for (int turn = 0; turn < 4; turn++) {
            Tenonyard yard = new Tenonyard();
            yard.node(0, 0, 'p');
            yard.node(5, 0, '-');
            yard.node(5, 0, '-');
            yard.node(9, 9, '-');
            yard.member(turn % 2 == 0 ? 0 : 1, turn % 2 == 0 ? 1 : 0, 12, 0);
            yard.member(turn < 2 ? 1 : 3, turn < 2 ? 3 : 1, 12, 0);
            yard.member(turn < 2 ? 2 : 3, turn < 2 ? 3 : 2, 12, 0);
            Check.refused("at one place", Yards.UNSUPPORTED, () -> yard.joint(0, 2, 'f', 2, 1));
            Check.refused("at one place, turned", Yards.UNSUPPORTED, () -> yard.joint(2, 0, 'f', 2, 1));
            Check.same("in common", yard.joint(0, 1, 'f', 2, 1), 0);
            Check.same("in common", yard.joint(2, 1, 'f', 2, 1), 1);
        }
    }

    /** "at most a third of the lesser breadth of both members, rounded down" */
    private static void eachThird() {
        for (int breadth = 6; breadth <= 40; breadth++) {
            for (int other = 6; other <= 40; other++) {
                int most = Math.min(breadth, other) / 3;
                Check.yes(most + " of " + breadth + " into " + other, isRight(breadth, other, most));
                Check.no(most + 1 + " of " + breadth + " into " + other, isRight(breadth, other, most + 1));
            }
            Check.yes("the thinnest", isRight(breadth, 6, 2));
            Check.no("the thickest", isRight(40, breadth, 20));
        }
    }

    private static boolean isRight(int breadth, int other, int thickness) {
        Tenonyard yard = without(2, 'p');
        yard.member(0, 1, breadth, 0);
        yard.member(1, 0, other, 0);
        yard.joint(0, 1, 'u', thickness, 1);
        return yard.isRight(0);
    }

    /** "its 5 bits the other way round" */
    private static void eachMark() {
        for (int mark = 1; mark <= 31; mark++) {
            Tenonyard yard = Yards.roof();
            yard.joint(0, 1, 'u', 2, mark);
            int due = (mark & 1) * 16 + (mark & 2) * 4 + (mark & 4) + (mark & 8) / 4 + (mark & 16) / 16;
            Check.same("misread " + mark, yard.misread(0), due);
        }
    }

    /** "two joints clash if their marks are the same, either one misread or not"; one joint clashes with no other. */
    private static void eachPairOfMarks() {
        for (int mark = 1; mark <= 31; mark++) {
            for (int other = 1; other <= 31; other++) {
                Tenonyard yard = Yards.roof();
                yard.joint(0, 1, 'u', 2, mark);
                Check.same("clashes of one", yard.clashes(), 0);
                yard.joint(1, 2, 'u', 2, other);
                boolean clash = mark == other || yard.misread(0) == other || mark == yard.misread(1);
                Check.same("clashes of " + mark + " and " + other, yard.clashes(), clash ? 1 : 0);
            }
        }
    }

    /** "Returns the number of pairs", each counted once: none of none, and the most of twelve. */
    private static void mostClashes() {
        Check.same("clashes of none", new Tenonyard().clashes(), 0);
        for (int[] marks : new int[][] {{21, 21}, {1, 16}, {1, 2}}) {
            Tenonyard yard = Yards.fan('p', 6);
            int made = 0;
            for (int member = 1; member < 6; member++) {
                for (int into = 0; into < member && made < 12; into++) {
                    yard.joint(member, into, 'f', 2, marks[made % 2]);
                    made++;
                }
            }
            Check.same("clashes of twelve", yard.clashes(), marks[1] == 2 ? 30 : 66);
        }
    }

    /** "30 and 30 at first", "Returns the one before": of this member alone. */
    private static void moistureBefore() {
        Tenonyard yard = Yards.full();
        Tenonyard fresh = Yards.fan('p', 9);
        for (int member = 0; member < 9; member++) {
            Check.same("cut at first", fresh.cutAt(member, 10 + member), 30);
            Check.same("dried to at first", fresh.dry(member, 60 - member), 30);
        }
        for (int member = 8; member >= 0; member--) {
            Check.same("cut before", fresh.cutAt(member, 60), 10 + member);
            Check.same("dried to before", fresh.dry(member, 10), 60 - member);
            Check.same("cut before", fresh.cutAt(member, 60), 60);
            Check.same("dried to before", fresh.dry(member, 10), 10);
        }
        Check.same("of a full yard", yard.cutAt(8, 10), 60);
    }

    /** "or as it was if that is not drier": as dry, and wetter by one and by the most. */
    private static void notDrier() {
        for (int thickness = 2; thickness <= 20; thickness++) {
            Tenonyard yard = Yards.roof();
            yard.joint(1, 0, 'u', thickness, 1);
            Check.same("gap at first", yard.gap(0), 0);
            yard.dry(1, 31);
            Check.same("gap if wetter by one", yard.gap(0), 0);
            yard.dry(1, 29);
            Check.same("gap if drier by one", yard.gap(0), 1);
            yard.cutAt(1, 29);
            Check.same("gap if as dry", yard.gap(0), 0);
            yard.dry(1, 60);
            yard.cutAt(1, 10);
            Check.same("gap if wetter by the most", yard.gap(0), 0);
            yard.dry(1, 10);
            yard.cutAt(1, 60);
            Check.same("gap if drier by the most", yard.gap(0), (thickness * 150 + 999) / 1000);
            yard.cutAt(0, 60);
            yard.dry(0, 10);
            Check.same("gap when the other one dries", yard.gap(0), (thickness * 150 + 999) / 1000);
        }
    }

    /** "Returns the joint that opens most, of several the lowest one." */
    private static void widestOfEqual() {
        Tenonyard none = new Tenonyard();
        Check.refused("widest of none", Yards.NONE, () -> none.widest());
        Tenonyard yard = Yards.fan('p', 9);
        for (int member = 0; member < 8; member++) {
            yard.joint(member, member + 1, 'f', 20, 1);
        }
        for (int member = 0; member < 4; member++) {
            yard.joint(member + 5, member, 'f', 20, 1);
        }
        Check.same("none opens", yard.widest(), 0);
        for (int member = 8; member >= 0; member--) {
            yard.dry(member, 10);
            Check.same("the lowest that opens", yard.widest(), member == 8 ? 11 : member);
        }
        for (int member = 0; member < 9; member++) {
            yard.dry(member, 30);
            Check.same("the lowest that still opens", yard.widest(), member < 7 ? member + 1 : member == 7 ? 11 : 0);
        }
    }

    /** "Returns their number divided by that of all, both converted to float." */
    private static void eachShare() {
        Check.refused("share of none", Yards.ARITHMETIC, () -> Yards.fan('p', 9).rightShare());
        for (int right = 0; right <= 12; right++) {
            Tenonyard yard = Yards.fan('p', 6);
            int made = 0;
            for (int member = 1; member < 6; member++) {
                for (int into = 0; into < member && made < 12; into++) {
                    yard.joint(member, into, 'f', made < right ? 4 : 5, 1);
                    made++;
                    Check.same("share", yard.rightShare(), (Object) ((float) Math.min(right, made) / (float) made));
                }
            }
        }
    }

    /** "the least whole number whose square is at least 100 times the square of its length" */
    private static void eachPiece() {
        for (int right = 0; right <= 30; right++) {
            for (int up = right == 0 ? 1 : 0; up <= 30; up++) {
                Tenonyard yard = new Tenonyard();
                yard.node(right, 0, '-');
                yard.node(0, up, '-');
                yard.member(0, 1, 6, 0);
                int piece = yard.piece(0);
                int square = 100 * (right * right + up * up);
                Check.yes("piece is enough", piece * piece >= square);
                Check.yes("one less is not", (piece - 1) * (piece - 1) < square);
            }
        }
    }

    /** "and 4 more for each joint by which it goes in": none, one, and as many as there can be. */
    private static void mostEnds() {
        Tenonyard yard = Yards.fan('p', 9);
        for (int into = 1; into < 9; into++) {
            Check.same("piece with " + (into - 1) + " ends", yard.piece(0), 10 + 4 * (into - 1));
            yard.joint(0, into, 'f', 2, 1);
        }
        Check.same("piece with eight ends", yard.piece(0), 42);
        Check.same("piece into which one goes", yard.piece(8), 20);
    }

    /** "each with 1 lost by the saw": a stick of just the length, and one that is shorter by 1. */
    private static void justLongEnough() {
        for (int length = 1; length <= 30; length++) {
            Tenonyard yard = new Tenonyard();
            yard.node(0, 0, 'p');
            yard.node(length, 0, 'r');
            yard.member(0, 1, 6, 0);
            Check.refused("no stick", Yards.NONE, () -> yard.wood());
            yard.stick(10 * length, 6, 0);
            Check.refused("too short by 1", Yards.NONE, () -> yard.wood());
            Check.refused("too short by 1", Yards.NONE, () -> yard.stickOf(0));
            Check.refused("too short by 1", Yards.NONE, () -> yard.waste(0));
            yard.stick(10 * length + 2, 6, 0);
            Check.same("more than enough", yard.wood(), 10 * length + 2);
            Check.same("1 is left", yard.waste(1), 1);
            yard.stick(10 * length + 1, 6, 0);
            Check.same("just enough", yard.wood(), 10 * length + 1);
            Check.same("none is left", yard.waste(2), 0);
            Check.same("all of it is left", yard.waste(1), 10 * length + 2);
        }
    }

    /** "the stick has at least the breadth and the grade of each": as much is enough, 1 less is not. */
    private static void justBroadAndGood() {
        for (int breadth = 6; breadth <= 40; breadth++) {
            for (int grade = 0; grade <= 3; grade++) {
                Tenonyard yard = without(2, 'p');
                yard.member(0, 1, breadth, grade);
                if (breadth > 6) {
                    yard.stick(900, breadth - 1, 3);
                }
                if (grade > 0) {
                    yard.stick(900, 40, grade - 1);
                }
                Check.refused("1 less", Yards.NONE, () -> yard.wood());
                int enough = yard.stick(900, breadth, grade);
                Check.same("just enough", yard.stickOf(0), enough);
                Check.same("of it", yard.waste(enough), 889);
            }
        }
    }

    /** "Returns the length, all of it if nothing is cut from it.": without members nothing is cut. */
    private static void nothingToCut() {
        Tenonyard yard = without(8, 'p');
        Check.same("wood without sticks", yard.wood(), 0);
        for (int stick = 0; stick < 5; stick++) {
            yard.stick(1 + 224 * stick, 6, 0);
            Check.same("wood", yard.wood(), 0);
            Check.same("waste", yard.waste(stick), 1 + 224 * stick);
        }
        Check.refused("no member is cut", Yards.INDEX, () -> yard.stickOf(0));
    }

    /** "Pieces are cut from one stick one behind the other, each with 1 lost by the saw, the last one too" */
    private static void sawBehindEach() {
        for (int members = 1; members <= 9; members++) {
            Tenonyard yard = Yards.fan('p', 0);
            for (int member = 0; member < members; member++) {
                yard.member(0, 2, 12, 0);
            }
            yard.stick(21 * members - 1, 12, 0);
            Check.refused("1 too short for " + members, Yards.NONE, () -> yard.wood());
            yard.stick(21 * members, 12, 0);
            Check.same("just enough for " + members, yard.waste(1), 0);
            yard.stick(21 * members + 1, 12, 0);
            Check.same("the shorter one", yard.wood(), 21 * members);
        }
    }

    /** Nine members from five sticks, none of which can be left out, and each cut to its end. */
    private static void mostFromAll() {
        Tenonyard yard = Yards.fan('p', 0);
        int[] lengths = {7, 1, 6, 2, 5, 3, 4, 4, 7};
        for (int length : lengths) {
            yard.member(0, length, 12, 0);
        }
        for (int stick = 0; stick < 4; stick++) {
            yard.stick(82, 12, 0);
        }
        Check.refused("four sticks", Yards.NONE, () -> yard.stickOf(8));
        yard.stick(70, 12, 0);
        Check.refused("1 too short", Yards.NONE, () -> yard.waste(4));
        Tenonyard enough = Yards.fan('p', 0);
        for (int length : lengths) {
            enough.member(0, length, 12, 0);
        }
        for (int stick = 0; stick < 4; stick++) {
            enough.stick(82, 12, 0);
        }
        enough.stick(71, 12, 0);
        Check.same("wood of all", enough.wood(), 4 * 82 + 71);
        int[] due = {0, 0, 1, 1, 2, 2, 3, 3, 4};
        for (int member = 0; member < 9; member++) {
            Check.same("stick of " + member, enough.stickOf(member), due[member]);
        }
        for (int stick = 0; stick < 5; stick++) {
            Check.same("waste of " + stick, enough.waste(stick), 0);
        }
    }

    /** "by which the sticks from which something is cut are shortest together", also if they are more, by 1. */
    private static void shortestTogether() {
        for (int more = -1; more <= 1; more++) {
            Tenonyard yard = Yards.fan('p', 2);
            yard.stick(33 + more, 12, 0);
            yard.stick(22, 12, 0);
            yard.stick(11, 12, 0);
            boolean isOne = more <= 0;
            Check.same("wood", yard.wood(), isOne ? 33 + more : 33);
            Check.same("stick of the shorter one", yard.stickOf(0), isOne ? 0 : 2);
            Check.same("stick of the longer one", yard.stickOf(1), isOne ? 0 : 1);
            Check.same("waste", yard.waste(0), isOne ? 1 + more : 34);
        }
    }

    /** "of several, the one in which the member 0 is cut from the lowest stick, then the member 1, and so on" */
    private static void lowestOfEqual() {
        Tenonyard yard = Yards.fan('p', 0);
        for (int member = 0; member < 9; member++) {
            yard.member(0, 1, 12, 0);
        }
        for (int stick = 0; stick < 5; stick++) {
            yard.stick(22, 12, 0);
        }
        for (int member = 0; member < 9; member++) {
            Check.same("two of each", yard.stickOf(member), member / 2);
        }
        Check.same("the last one has one", yard.waste(4), 11);
        Tenonyard one = Yards.fan('p', 1);
        one.stick(40, 11, 0);
        for (int stick = 1; stick < 5; stick++) {
            one.stick(40, 12, 0);
            Check.same("lowest that is broad enough", one.stickOf(0), 1);
        }
    }

    /** "there must be at most so many as told, 2 at first", "Returns how many there were" */
    private static void propsAtFirst() {
        Tenonyard yard = hanging(3);
        Check.no("three, told nothing", yard.canRaise());
        Check.yes("two, told nothing", hanging(2).canRaise());
        Check.same("at first", yard.setProps(0), 2);
        for (int props = 1; props <= 9; props++) {
            Check.same("before", yard.setProps(props), props - 1);
        }
        Check.same("before", yard.setProps(9), 9);
    }

    /** So many members of free nodes alone. */
    private static Tenonyard hanging(int members) {
        return Yards.fan('-', members);
    }

    /** "that of the joint for the member that goes in by it, and the other way round for the other one" */
    private static void eachWayIn() {
        for (int way = 0; way < 5; way++) {
            for (int other = 0; other < 5; other++) {
                Check.same("both into 0", waysInto(WAYS.charAt(way), WAYS.charAt(other), false), way == other ? 6 : 4);
                Check.same("0 into one", waysInto(TURNED.charAt(way), WAYS.charAt(other), true), way == other ? 6 : 4);
            }
        }
    }

    private static int waysInto(char way, char other, boolean goesIn) {
        Tenonyard yard = Yards.fan('p', 3);
        yard.joint(goesIn ? 0 : 1, goesIn ? 1 : 0, way, 2, 1);
        yard.joint(2, 0, other, 2, 1);
        return yard.orders();
    }

    /** "each standing member that has no node that is pinned or on a roller": the first, the second, both, none. */
    private static void onGround() {
        for (char first : new char[] {'-', 'p', 'r'}) {
            for (char second : new char[] {'-', 'p', 'r'}) {
                Tenonyard yard = new Tenonyard();
                yard.node(0, 0, first);
                yard.node(9, 0, second);
                yard.member(0, 1, 12, 0);
                boolean hangs = first == '-' && second == '-';
                Check.same("props", yard.props(0), hangs ? 1 : 0);
                yard.setProps(0);
                Check.same("without props", yard.canRaise(), (Object) !hangs);
                Check.same("without props", yard.canTakeAway(), (Object) !hangs);
            }
        }
    }

    /** "has fewer than two joints with standing ones": none, one, two, three, whichever goes in. */
    private static void fewerThanTwo() {
        for (int joints = 0; joints <= 3; joints++) {
            for (int turned = 0; turned <= joints; turned++) {
                Tenonyard yard = new Tenonyard();
                yard.node(0, 0, '-');
                yard.node(5, 5, '-');
                yard.node(10, 0, 'p');
                for (int member = 0; member < 3; member++) {
                    yard.member(1, 2, 12, 0);
                }
                yard.member(0, 1, 12, 0);
                for (int joint = 0; joint < joints; joint++) {
                    yard.joint(joint < turned ? joint : 3, joint < turned ? 3 : joint, 'f', 2, 1);
                }
                Check.same("props with " + joints + " joints", yard.props(3), joints < 2 ? 1 : 0);
                yard.setProps(0);
                Check.same("orders with " + joints, yard.orders(), joints < 2 ? 0 : joints == 2 ? 8 : 12);
            }
        }
    }

    /** "there must be at most so many as told": just so many, and 1 less. */
    private static void atMostAsTold() {
        int due = 1;
        for (int members = 1; members <= 9; members++) {
            due *= members;
            Tenonyard yard = hanging(members);
            yard.setProps(members - 1);
            Check.same("1 too few for " + members, yard.orders(), 0);
            Check.no("1 too few", yard.canRaise());
            Check.no("1 too few", yard.canTakeAway());
            Check.refused("no order", Yards.NONE, () -> yard.raised(0));
            Check.refused("no order", Yards.NONE, () -> yard.props(0));
            yard.setProps(members);
            Check.same("just enough for " + members, yard.orders(), due);
            Check.yes("just enough", yard.canRaise());
            Check.yes("just enough", yard.canTakeAway());
            Check.same("all in use", yard.props(members - 1), members);
        }
        Check.same("the most orders", due, 362880);
    }

    /** "without members it is empty": there is one order, and nothing in it, no matter how few props. */
    private static void orderWithoutMembers() {
        Tenonyard yard = without(8, '-');
        for (int props = 0; props <= 9; props++) {
            yard.setProps(props);
            Check.same("orders", yard.orders(), 1);
            Check.yes("can be raised", yard.canRaise());
            Check.yes("can be taken away", yard.canTakeAway());
            Check.refused("nothing in it", Yards.INDEX, () -> yard.raised(0));
            Check.refused("nothing in it", Yards.INDEX, () -> yard.props(0));
        }
    }

    /** "the first one, by comparing the numbers of members from the first one raised on" */
    private static void firstByNumbers() {
        for (int last = 0; last < 9; last++) {
            Tenonyard yard = new Tenonyard();
            yard.node(0, 0, 'p');
            yard.node(5, 5, '-');
            yard.node(9, 9, '-');
            for (int member = 0; member < 9; member++) {
                yard.member(member == last ? 1 : 0, member == last ? 2 : 1, 12, 0);
            }
            int one = last < 2 ? 2 : 1;
            yard.joint(last, one, 'u', 2, 1);
            yard.joint(8 - (last == 8 ? 1 : 0), last, 'd', 2, 1);
            yard.setProps(0);
            int index = 0;
            for (int member = 0; member < 9; member++) {
                if (member != last) {
                    Check.same("order with " + last + " last", yard.raised(index++), member);
                }
            }
            Check.same("the one that needs all", yard.raised(8), last);
        }
    }

    /** "how many props are in use behind a member of the order": rising, and falling as joints come. */
    private static void propsOfTheOrder() {
        Tenonyard yard = hanging(9);
        yard.setProps(9);
        for (int index = 0; index < 9; index++) {
            Check.same("props behind " + index, yard.props(index), index + 1);
        }
        Tenonyard ring = new Tenonyard();
        for (int node = 0; node < 3; node++) {
            ring.node(node, node * node, '-');
        }
        for (int member = 0; member < 3; member++) {
            ring.member(member, (member + 1) % 3, 12, 0);
        }
        for (int member = 0; member < 3; member++) {
            ring.joint(member, (member + 1) % 3, 'f', 2, 1);
        }
        Check.same("behind the first", ring.props(0), 1);
        Check.same("behind the second", ring.props(1), 2);
        Check.same("all hold one another", ring.props(2), 0);
        Check.same("all orders", ring.orders(), 6);
        ring.setProps(1);
        Check.same("not on the way", ring.orders(), 0);
    }

    /** "the lowest member that can be in no order as the last one, the others standing": each one of nine, and none. */
    private static void eachStuck() {
        for (int stuck = 0; stuck < 9; stuck++) {
            Tenonyard yard = Yards.fan('-', 9);
            Check.refused("none is stuck", Yards.NONE, () -> yard.stuck());
            yard.joint(stuck, (stuck + 1) % 9, 'u', 2, 1);
            Check.refused("one joint does not stick", Yards.NONE, () -> yard.stuck());
            yard.joint((stuck + 2) % 9, stuck, 'd', 2, 1);
            Check.refused("nor two that ask for one way", Yards.NONE, () -> yard.stuck());
            yard.joint(stuck, (stuck + 3) % 9, 'l', 2, 1);
            yard.setProps(stuck);
            Check.same("stuck", yard.stuck(), stuck);
            int other = (stuck + 4) % 9;
            yard.joint(other, (stuck + 5) % 9, 'u', 2, 1);
            yard.joint(other, (stuck + 6) % 9, 'd', 2, 1);
            Check.same("the lowest of two", yard.stuck(), Math.min(stuck, other));
        }
        Check.refused("no member", Yards.NONE, () -> new Tenonyard().stuck());
        Check.refused("one member", Yards.NONE, () -> hanging(1).stuck());
    }

    /** "both ways of raising tell the same": with each number of props. */
    private static void bothWaysTellTheSame() {
        for (Object[][] calls : new Object[][][] {{}, Yards.FURNISHED, Yards.FULL, Yards.BARE}) {
            Tenonyard yard = Yards.make(new Tenonyard(), calls);
            for (int props = 0; props <= 9; props++) {
                yard.setProps(props);
                Check.same("both ways", yard.canTakeAway(), (Object) yard.canRaise());
                Check.same("orders", yard.orders() > 0, (Object) yard.canRaise());
                Check.yes("sound", yard.isSound());
            }
        }
    }

    /** "a frame that stands is in balance at each section": one that does not is sound as well. */
    private static void soundInEachState() {
        Check.yes("nothing", new Tenonyard().isSound());
        for (int members = 0; members <= 9; members++) {
            Tenonyard yard = astray(members);
            yard.load(2, 7, 7);
            Check.yes("sound, " + yard.state(), yard.isSound());
        }
        Check.yes("full", Yards.full().isSound());
    }
}
