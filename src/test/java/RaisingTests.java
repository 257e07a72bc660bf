/** Promises 24 to 30 and 34: the order of raising, forward and backward. */
public final class RaisingTests {
    public static void main(String[] args) {
        setProps();
        withoutMembers();
        freely();
        ways();
        oppositeWays();
        deadlock();
        props();
        tiedProps();
        stuck();
        isSound();
        Check.end("RaisingTests");
    }

    private static void setProps() {
        Tenonyard yard = new Tenonyard();
        Check.same("props at first", yard.setProps(0), 2);
        Check.same("props before", yard.setProps(9), 0);
        for (int far : new int[] {-1, 10, Integer.MAX_VALUE, Integer.MIN_VALUE}) {
            Check.refused("props " + far, Yards.ARGUMENT, () -> yard.setProps(far));
        }
        Check.same("props after refusals", yard.setProps(1), 9);
    }

    private static void withoutMembers() {
        Tenonyard yard = new Tenonyard();
        Check.yes("raise nothing", yard.canRaise());
        Check.yes("take nothing away", yard.canTakeAway());
        Check.same("orders of nothing", yard.orders(), 1);
        Check.refused("first of nothing", Yards.INDEX, () -> yard.raised(0));
        Check.refused("props of nothing", Yards.INDEX, () -> yard.props(0));
        Check.refused("stuck of nothing", Yards.NONE, () -> yard.stuck());
    }

    private static void freely() {
        int due = 1;
        for (int members = 1; members <= 9; members++) {
            due *= members;
            Tenonyard yard = Yards.fan('r', members);
            yard.setProps(0);
            Check.same("orders of " + members, yard.orders(), due);
            for (int index = 0; index < members; index++) {
                Check.same("raised", yard.raised(index), index);
                Check.same("props", yard.props(index), 0);
            }
            for (int far : new int[] {-1, members, 9, Integer.MAX_VALUE, Integer.MIN_VALUE}) {
                Check.refused("raised " + far, Yards.INDEX, () -> yard.raised(far));
                Check.refused("props " + far, Yards.INDEX, () -> yard.props(far));
            }
            Check.refused("none is stuck", Yards.NONE, () -> yard.stuck());
        }
    }

    /** Member 0 has joints with 1 and 2, which ask it for these ways. */
    private static Tenonyard asked(char ofOne, boolean goesInOne, char ofTwo, boolean goesInTwo) {
        Tenonyard yard = Yards.fan('p', 3);
        yard.joint(goesInOne ? 0 : 1, goesInOne ? 1 : 0, ofOne, 2, 1);
        yard.joint(goesInTwo ? 0 : 2, goesInTwo ? 2 : 0, ofTwo, 2, 1);
        return yard;
    }

    private static void ways() {
        String signs = "udlrf";
        for (int one = 0; one < 5; one++) {
            for (int two = 0; two < 5; two++) {
                char ofOne = signs.charAt(one);
                char ofTwo = signs.charAt(two);
                boolean isOne = one == two;
                String what = "orders of " + ofOne + " and " + ofTwo;
                Check.same(what, asked(ofOne, true, ofTwo, true).orders(), isOne ? 6 : 4);
                Check.same(what, asked(ofOne, false, ofTwo, false).orders(), isOne ? 6 : 4);
            }
        }
    }

    private static void oppositeWays() {
        String signs = "udlrf";
        String opposite = "durlf";
        for (int one = 0; one < 5; one++) {
            for (int two = 0; two < 5; two++) {
                char ofOne = signs.charAt(one);
                char ofTwo = signs.charAt(two);
                boolean isOne = opposite.charAt(one) == ofTwo;
                String what = "orders of " + ofOne + " and, turned, " + ofTwo;
                Tenonyard yard = asked(ofOne, true, ofTwo, false);
                Check.same(what, yard.orders(), isOne ? 6 : 4);
                Check.same(what, asked(ofOne, false, ofTwo, true).orders(), isOne ? 6 : 4);
                yard.setProps(0);
                Check.yes("can be raised", yard.canRaise());
                Check.yes("can be taken away", yard.canTakeAway());
            }
        }
        Tenonyard yard = asked('u', true, 'r', true);
        yard.joint(1, 2, 'r', 2, 1);
        Check.same("orders in which 2 is last", yard.orders(), 2);
        Check.same("first", yard.raised(0), 0);
        Check.same("second", yard.raised(1), 1);
        Check.same("third", yard.raised(2), 2);
        Tenonyard later = asked('u', true, 'r', true);
        later.joint(2, 1, 'u', 2, 1);
        Check.same("first in order", later.raised(0), 0);
        Check.same("second in order", later.raised(1), 2);
        Check.same("third in order", later.raised(2), 1);
    }

    private static Tenonyard deadlocked() {
        Tenonyard yard = asked('u', true, 'r', true);
        yard.joint(1, 2, 'f', 2, 1);
        return yard;
    }

    private static void deadlock() {
        Tenonyard yard = deadlocked();
        yard.setProps(9);
        Check.no("cannot be raised", yard.canRaise());
        Check.no("cannot be taken away", yard.canTakeAway());
        Check.same("no orders", yard.orders(), 0);
        for (int far : new int[] {0, 3, -1, Integer.MIN_VALUE}) {
            Check.refused("raised in no order", Yards.NONE, () -> yard.raised(far));
            Check.refused("props in no order", Yards.NONE, () -> yard.props(far));
        }
    }

    private static void props() {
        Tenonyard yard = new Tenonyard();
        yard.node(0, 0, 'p');
        for (int node = 1; node < 5; node++) {
            yard.node(node, 0, '-');
        }
        yard.node(9, 0, 'r');
        yard.member(1, 2, 12, 0);
        Check.same("one hangs", yard.props(0), 1);
        yard.member(2, 3, 12, 0);
        Check.same("two hang", yard.props(1), 2);
        yard.member(3, 4, 12, 0);
        Check.no("three hang", yard.canRaise());
        Check.no("three hang", yard.canTakeAway());
        Check.same("three hang", yard.orders(), 0);
        Check.same("props at first", yard.setProps(3), 2);
        Check.same("three props", yard.orders(), 6);
        Check.same("three props", yard.props(2), 3);
        yard.member(4, 5, 12, 0);
        yard.member(0, 1, 12, 0);
        Check.same("on a roller", yard.props(3), 3);
        Check.same("on a pinned node", yard.props(4), 3);
        yard.joint(0, 1, 'f', 2, 1);
        yard.joint(0, 4, 'f', 2, 1);
        Check.same("one joint is not enough", yard.props(1), 2);
        Check.same("two joints hold", yard.props(4), 2);
        yard.setProps(2);
        Check.same("0 before 2", yard.raised(0), 0);
        Check.same("1 before 2", yard.raised(1), 1);
        Check.same("3 before 2", yard.raised(2), 3);
        Check.same("4 before 2", yard.raised(3), 4);
        Check.same("props with two joints", yard.props(3), 1);
        Check.same("2 last", yard.raised(4), 2);
        Check.same("props at last", yard.props(4), 2);
        yard.setProps(1);
        Check.no("one prop", yard.canRaise());
        Check.no("one prop", yard.canTakeAway());
    }

    /** A hanging member between two that stand on the ground needs no prop when it goes in last. */
    private static void tiedProps() {
        Tenonyard yard = new Tenonyard();
        yard.node(0, 0, 'p');
        yard.node(1, 5, '-');
        yard.node(9, 5, '-');
        yard.node(10, 0, 'r');
        yard.member(1, 2, 12, 0);
        yard.member(0, 1, 12, 0);
        yard.member(3, 2, 12, 0);
        yard.joint(1, 0, 'u', 4, 1);
        yard.joint(2, 0, 'u', 4, 2);
        Check.same("with props", yard.orders(), 6);
        yard.setProps(1);
        Check.same("with one prop", yard.raised(0), 0);
        yard.setProps(0);
        Check.same("without props", yard.orders(), 2);
        Check.same("first", yard.raised(0), 1);
        Check.same("second", yard.raised(1), 2);
        Check.same("third", yard.raised(2), 0);
        Check.same("props behind the first", yard.props(0), 0);
        Check.same("props behind the last", yard.props(2), 0);
        yard.member(1, 2, 12, 0);
        Check.same("a member that always hangs", yard.orders(), 0);
    }

    private static void stuck() {
        Check.same("stuck in all", deadlocked().stuck(), 0);
        Tenonyard yard = Yards.fan('-', 3);
        yard.joint(0, 2, 'u', 2, 1);
        yard.joint(1, 2, 'l', 2, 1);
        yard.setProps(0);
        Check.same("stuck below two", yard.stuck(), 2);
        yard.joint(0, 1, 'u', 2, 1);
        Check.same("the lowest of two", yard.stuck(), 1);
        Tenonyard free = Yards.fan('-', 2);
        free.joint(0, 1, 'u', 2, 1);
        free.setProps(0);
        Check.refused("none is stuck, props aside", Yards.NONE, () -> free.stuck());
        Tenonyard aside = deadlocked();
        Tenonyard other = Yards.fan('p', 4);
        other.joint(1, 2, 'u', 2, 1);
        other.joint(1, 3, 'r', 2, 1);
        other.joint(2, 3, 'f', 2, 1);
        Check.no("others cannot be raised", other.canRaise());
        Check.same("but 0 can go in when they stand", other.stuck(), 1);
        Check.no("deadlocked", aside.canRaise());
    }

    private static void isSound() {
        Check.yes("nothing", new Tenonyard().isSound());
        Check.yes("deadlock", deadlocked().isSound());
        Tenonyard yard = Yards.roof();
        yard.load(2, 31, -61);
        yard.load(0, 5, 5);
        Check.yes("roof", yard.isSound());
        yard.joint(0, 1, 'f', 2, 1);
        yard.joint(0, 2, 'd', 2, 1);
        Check.yes("roof with joints", yard.isSound());
        yard.node(1, 1, '-');
        Check.yes("loose", yard.isSound());
    }
}
