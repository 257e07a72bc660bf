/** Promises 11 to 18 and 32: joints, their marks, and how they open. */
public final class JointTests {
    public static void main(String[] args) {
        joint();
        jointsOfAChain();
        fullYard();
        isRight();
        misread();
        clashes();
        moistures();
        gap();
        eachGap();
        widest();
        rightShare();
        Check.end("JointTests");
    }

    private static void joint() {
        Tenonyard yard = Yards.roof();
        for (int far : new int[] {-1, 3, 9, Integer.MAX_VALUE, Integer.MIN_VALUE}) {
            Check.refused("joint of " + far, Yards.INDEX, () -> yard.joint(far, 0, 'x', 0, 0));
            Check.refused("joint into " + far, Yards.INDEX, () -> yard.joint(0, far, 'x', 0, 0));
            Check.refused("joint of and into " + far, Yards.INDEX, () -> yard.joint(far, far, 'u', 2, 1));
        }
        Check.refused("joint with itself", Yards.ARGUMENT, () -> yard.joint(1, 1, 'u', 2, 1));
        for (int thickness : new int[] {1, 21, Integer.MAX_VALUE, Integer.MIN_VALUE}) {
            Check.refused("thickness " + thickness, Yards.ARGUMENT, () -> yard.joint(0, 1, 'u', thickness, 1));
        }
        for (int mark : new int[] {0, 32, -1, Integer.MAX_VALUE, Integer.MIN_VALUE}) {
            Check.refused("mark " + mark, Yards.ARGUMENT, () -> yard.joint(0, 1, 'u', 2, mark));
        }
        for (char way : new char[] {'x', 'U', 'b', ' ', 0, 0xffff}) {
            Check.refused("way " + (int) way, Yards.ARGUMENT, () -> yard.joint(0, 1, way, 2, 1));
        }
        Check.same("first joint", yard.joint(0, 1, 'u', 2, 1), 0);
        Check.refused("second joint of both", Yards.UNSUPPORTED, () -> yard.joint(0, 1, 'd', 2, 1));
        Check.refused("second joint, the other way round", Yards.UNSUPPORTED, () -> yard.joint(1, 0, 'd', 2, 1));
        Check.refused("second joint too thick", Yards.ARGUMENT, () -> yard.joint(1, 0, 'd', 21, 1));
        Check.same("joint", yard.joint(2, 0, 'l', 20, 31), 1);
        Check.same("joint", yard.joint(2, 1, 'r', 20, 31), 2);
    }

    private static void jointsOfAChain() {
        Tenonyard yard = new Tenonyard();
        yard.node(0, 0, 'p');
        yard.node(5, 0, '-');
        yard.node(5, 5, '-');
        yard.node(5, 0, '-');
        yard.member(0, 1, 12, 0);
        yard.member(1, 2, 12, 0);
        yard.member(2, 3, 12, 0);
        yard.member(2, 1, 12, 0);
        Check.refused("no node in common", Yards.UNSUPPORTED, () -> yard.joint(0, 2, 'f', 2, 1));
        Check.refused("no node in common, too thin", Yards.ARGUMENT, () -> yard.joint(0, 2, 'f', 1, 1));
        Check.same("joint of second and first nodes", yard.joint(0, 1, 'f', 2, 1), 0);
        Check.same("joint of first and second nodes", yard.joint(2, 1, 'd', 2, 1), 1);
        Check.same("joint of two nodes in common", yard.joint(1, 3, 'u', 2, 1), 2);
        Check.same("joint of second nodes", yard.joint(0, 3, 'r', 2, 1), 3);
    }

    private static void fullYard() {
        Tenonyard yard = Yards.fan('p', 9);
        int made = 0;
        for (int member = 1; member < 5; member++) {
            for (int into = 0; into < member && made < 10; into++) {
                Check.same("joint", yard.joint(member, into, 'f', 2, 1), made++);
            }
        }
        Check.same("joint", yard.joint(7, 8, 'f', 2, 1), 10);
        Check.same("joint", yard.joint(8, 0, 'f', 2, 1), 11);
        Check.refused("thirteenth joint", Yards.STATE, () -> yard.joint(6, 5, 'f', 2, 1));
        Check.refused("thirteenth joint, joined", Yards.UNSUPPORTED, () -> yard.joint(8, 7, 'f', 2, 1));
        Check.refused("thirteenth joint too thin", Yards.ARGUMENT, () -> yard.joint(8, 7, 'f', 1, 1));
        Check.refused("thirteenth joint of no member", Yards.INDEX, () -> yard.joint(9, 7, 'f', 1, 1));
        Check.refused("no thirteenth joint", Yards.INDEX, () -> yard.gap(12));
        Check.same("piece with three ends that go in", yard.piece(3), 40 + 12);
    }

    private static void isRight() {
        Tenonyard yard = new Tenonyard();
        yard.node(0, 0, 'p');
        yard.node(5, 0, '-');
        yard.member(0, 1, 20, 0);
        yard.member(0, 1, 26, 0);
        yard.member(0, 1, 6, 0);
        yard.member(0, 1, 40, 0);
        yard.joint(0, 1, 'u', 6, 1);
        yard.joint(3, 0, 'u', 7, 1);
        yard.joint(3, 1, 'u', 8, 1);
        yard.joint(2, 3, 'u', 2, 1);
        yard.joint(0, 2, 'u', 3, 1);
        Check.yes("6 in 20", yard.isRight(0));
        Check.no("7 in 20", yard.isRight(1));
        Check.yes("8 in 26", yard.isRight(2));
        Check.yes("2 in 6", yard.isRight(3));
        Check.no("3 in 6", yard.isRight(4));
        for (int far : new int[] {-1, 5, 12, Integer.MAX_VALUE, Integer.MIN_VALUE}) {
            Check.refused("right " + far, Yards.INDEX, () -> yard.isRight(far));
        }
    }

    private static void misread() {
        int[][] marks = {{1, 16}, {2, 8}, {4, 4}, {3, 24}, {6, 12}, {31, 31}, {19, 25}, {17, 17}, {30, 15}};
        for (int[] mark : marks) {
            Tenonyard yard = Yards.roof();
            yard.joint(0, 1, 'u', 2, mark[0]);
            yard.joint(1, 2, 'u', 2, mark[1]);
            Check.same("misread " + mark[0], yard.misread(0), mark[1]);
            Check.same("misread " + mark[1], yard.misread(1), mark[0]);
            for (int far : new int[] {-1, 2, 12, Integer.MAX_VALUE, Integer.MIN_VALUE}) {
                Check.refused("misread of joint " + far, Yards.INDEX, () -> yard.misread(far));
            }
        }
    }

    private static void clashes() {
        Tenonyard yard = Yards.fan('p', 6);
        Check.same("clashes of none", yard.clashes(), 0);
        int[] marks = {3, 24, 3, 4, 4, 5, 20, 6};
        int[] due = {0, 1, 3, 3, 4, 4, 5, 5};
        int made = 0;
        for (int member = 1; member < 5; member++) {
            for (int into = 0; into < member && made < marks.length; into++) {
                yard.joint(member, into, 'f', 2, marks[made]);
                Check.same("clashes of " + (made + 1), yard.clashes(), due[made]);
                made++;
            }
        }
    }

    private static void moistures() {
        Tenonyard yard = Yards.roof();
        Check.same("cut at first", yard.cutAt(1, 60), 30);
        Check.same("dried at first", yard.dry(1, 10), 30);
        Check.same("cut before", yard.cutAt(1, 10), 60);
        Check.same("dried before", yard.dry(1, 60), 10);
        Check.same("cut at first elsewhere", yard.cutAt(2, 20), 30);
        for (int far : new int[] {-1, 3, 9, Integer.MAX_VALUE, Integer.MIN_VALUE}) {
            Check.refused("cut " + far, Yards.INDEX, () -> yard.cutAt(far, 9));
            Check.refused("dry " + far, Yards.INDEX, () -> yard.dry(far, 9));
        }
        for (int far : new int[] {9, 61, -1, Integer.MAX_VALUE, Integer.MIN_VALUE}) {
            Check.refused("cut at " + far, Yards.ARGUMENT, () -> yard.cutAt(1, far));
            Check.refused("dry to " + far, Yards.ARGUMENT, () -> yard.dry(1, far));
        }
        Check.same("cut after refusals", yard.cutAt(1, 30), 10);
        Check.same("dried after refusals", yard.dry(1, 30), 60);
    }

    private static void gap() {
        Tenonyard yard = Yards.roof();
        yard.joint(0, 1, 'u', 20, 1);
        yard.joint(2, 0, 'u', 2, 1);
        Check.same("gap at first", yard.gap(0), 0);
        yard.dry(1, 10);
        Check.same("gap if the receiving one dries", yard.gap(0), 0);
        yard.dry(0, 29);
        Check.same("gap 0.06, so 19 are left", yard.gap(0), 1);
        yard.cutAt(0, 60);
        yard.dry(0, 10);
        Check.same("gap 3, so 17 are left", yard.gap(0), 3);
        yard.dry(0, 11);
        Check.same("gap 2.94, so 17 are left", yard.gap(0), 3);
        yard.dry(0, 60);
        Check.same("gap if as it was", yard.gap(0), 0);
        yard.cutAt(0, 10);
        Check.same("gap if wetter", yard.gap(0), 0);
        yard.cutAt(2, 60);
        yard.dry(2, 10);
        Check.same("gap of 2", yard.gap(1), 1);
        for (int far : new int[] {-1, 2, 12, Integer.MAX_VALUE, Integer.MIN_VALUE}) {
            Check.refused("gap of " + far, Yards.INDEX, () -> yard.gap(far));
        }
    }

    private static void eachGap() {
        for (int thickness = 2; thickness <= 20; thickness++) {
            for (int cut = 10; cut <= 60; cut++) {
                Tenonyard yard = Yards.roof();
                yard.joint(0, 1, 'u', thickness, 1);
                yard.cutAt(0, cut);
                for (int dried = 10; dried <= 60; dried++) {
                    yard.dry(0, dried);
                    int left = 0;
                    while (1000 * (left + 1) <= thickness * (1000 - 3 * Math.max(0, cut - dried))) {
                        left++;
                    }
                    Check.same("gap of " + thickness + " from " + cut + " to " + dried, yard.gap(0), thickness - left);
                }
            }
        }
    }

    private static void widest() {
        Tenonyard yard = Yards.roof();
        Check.refused("widest of none", Yards.NONE, () -> yard.widest());
        yard.joint(0, 1, 'u', 2, 1);
        yard.joint(1, 2, 'u', 20, 1);
        yard.joint(2, 0, 'u', 20, 1);
        Check.same("widest of closed ones", yard.widest(), 0);
        yard.dry(1, 10);
        Check.same("widest", yard.widest(), 1);
        yard.dry(2, 10);
        Check.same("widest of two", yard.widest(), 1);
        yard.cutAt(2, 60);
        Check.same("widest", yard.widest(), 2);
    }

    private static void rightShare() {
        Tenonyard yard = Yards.roof();
        Check.refused("share of none", Yards.ARITHMETIC, () -> yard.rightShare());
        yard.joint(0, 1, 'u', 7, 1);
        Check.same("share", yard.rightShare(), 0f);
        yard.joint(1, 2, 'u', 2, 1);
        Check.same("share", yard.rightShare(), 0.5f);
        yard.joint(2, 0, 'u', 2, 1);
        Check.same("share", yard.rightShare(), 2f / 3f);
        Tenonyard first = Yards.roof();
        first.joint(0, 1, 'u', 2, 1);
        first.joint(1, 2, 'u', 20, 1);
        Check.same("share of the first one", first.rightShare(), 0.5f);
    }
}
