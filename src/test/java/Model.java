import java.math.BigInteger;
import java.util.ArrayList;
import java.util.Arrays;
import java.util.List;
import java.util.NoSuchElementException;

/**
 * The document once more, in the plainest way and by other means than the program: all equations
 * of the frame in fractions of any size, every way to cut and every order tried one by one.
 */
final class Model {
    private record Node(int x, int y, char kind) {
    }

    private record Member(int node, int other, int breadth, int grade) {
    }

    private record Joint(int member, int into, char way, int thickness, int mark) {
    }

    private record Stick(int length, int breadth, int grade) {
    }

    private final List<Node> nodes = new ArrayList<>();
    private final List<Member> members = new ArrayList<>();
    private final List<Joint> joints = new ArrayList<>();
    private final List<Stick> sticks = new ArrayList<>();
    private final int[] loadCounts = new int[8];
    private final long[][] loads = new long[8][2];
    private final int[] cuts = new int[9];
    private final int[] dries = new int[9];
    private int limit = 2;
    private char state;
    /** Numerators and denominators: the pulls, then the bearings at 9 + 2 * node + axis. */
    private final BigInteger[] over = new BigInteger[25];
    private final BigInteger[] under = new BigInteger[25];
    private int leastWood;
    private int[] bestCut;
    private int orderCount;
    private int[] firstOrder;
    private boolean isFrameKnown;
    private boolean isCutKnown;
    private boolean isOrderKnown;

    private static void require(boolean holds, RuntimeException otherwise) {
        if (!holds) {
            throw otherwise;
        }
    }

    private static IllegalArgumentException argument() {
        return new IllegalArgumentException();
    }

    private static void index(int index, List<?> of) {
        require(index >= 0 && index < of.size(), new IndexOutOfBoundsException());
    }

    private void forget() {
        isFrameKnown = false;
        isCutKnown = false;
        isOrderKnown = false;
    }

    int node(int x, int y, char kind) {
        require(x >= 0 && x <= 30 && y >= 0 && y <= 30 && (kind == '-' || kind == 'p' || kind == 'r'), argument());
        require(nodes.size() < 8, new IllegalStateException());
        forget();
        nodes.add(new Node(x, y, kind));
        return nodes.size() - 1;
    }

    int member(int node, int other, int breadth, int grade) {
        index(node, nodes);
        index(other, nodes);
        Node one = nodes.get(node);
        Node two = nodes.get(other);
        require(one.x != two.x || one.y != two.y, argument());
        require(breadth >= 6 && breadth <= 40 && grade >= 0 && grade <= 3, argument());
        require(members.size() < 9, new IllegalStateException());
        forget();
        cuts[members.size()] = 30;
        dries[members.size()] = 30;
        members.add(new Member(node, other, breadth, grade));
        return members.size() - 1;
    }

    int load(int node, int right, int up) {
        index(node, nodes);
        require(right >= -999 && right <= 999 && up >= -999 && up <= 999, argument());
        forget();
        loads[node][0] += right;
        loads[node][1] += up;
        return ++loadCounts[node];
    }

    private boolean isBorne(int node, int axis) {
        char kind = nodes.get(node).kind;
        return kind == 'p' || kind == 'r' && axis == 1;
    }

    private int place(int node, int axis) {
        return axis == 0 ? nodes.get(node).x : nodes.get(node).y;
    }

    private int way(int member, int node, int axis) {
        Member at = members.get(member);
        if (at.node != node && at.other != node) {
            return 0;
        }
        return place(at.node + at.other - node, axis) - place(node, axis);
    }

    char state() {
        if (!isFrameKnown) {
            solve();
            isFrameKnown = true;
        }
        return state;
    }

    /** Gauss and Jordan, on all equations with all unknowns; fractions are kept as whole rows. */
    private void solve() {
        List<Integer> unknowns = new ArrayList<>();
        for (int member = 0; member < members.size(); member++) {
            unknowns.add(member);
        }
        Arrays.fill(over, BigInteger.ZERO);
        Arrays.fill(under, BigInteger.ONE);
        for (int node = 0; node < nodes.size(); node++) {
            for (int axis = 0; axis < 2; axis++) {
                if (isBorne(node, axis)) {
                    unknowns.add(9 + 2 * node + axis);
                }
            }
        }
        int size = 2 * nodes.size();
        if (unknowns.size() != size) {
            state = unknowns.size() < size ? 'l' : 't';
            return;
        }
        BigInteger[][] rows = new BigInteger[size][size + 1];
        for (int row = 0; row < size; row++) {
            for (int column = 0; column < size; column++) {
                int unknown = unknowns.get(column);
                int coefficient = unknown < 9 ? way(unknown, row / 2, row % 2) : unknown - 9 == row ? 1 : 0;
                rows[row][column] = BigInteger.valueOf(coefficient);
            }
            rows[row][size] = BigInteger.valueOf(-loads[row / 2][row % 2]);
        }
        if (!reduce(rows, size)) {
            state = 'c';
            return;
        }
        state = '.';
        for (int row = 0; row < size; row++) {
            boolean isTurned = rows[row][row].signum() < 0;
            over[unknowns.get(row)] = isTurned ? rows[row][size].negate() : rows[row][size];
            under[unknowns.get(row)] = rows[row][row].abs();
        }
    }

    private static boolean reduce(BigInteger[][] rows, int size) {
        for (int pivot = 0; pivot < size; pivot++) {
            int found = pivot;
            while (found < size && rows[found][pivot].signum() == 0) {
                found++;
            }
            if (found == size) {
                return false;
            }
            BigInteger[] swapped = rows[found];
            rows[found] = rows[pivot];
            rows[pivot] = swapped;
            for (int row = 0; row < size; row++) {
                BigInteger times = rows[row][pivot];
                if (row == pivot || times.signum() == 0) {
                    continue;
                }
                BigInteger common = BigInteger.ZERO;
                for (int column = 0; column <= size; column++) {
                    rows[row][column] = rows[row][column].multiply(swapped[pivot])
                            .subtract(swapped[column].multiply(times));
                    common = common.gcd(rows[row][column]);
                }
                for (int column = 0; column <= size && common.signum() > 0; column++) {
                    rows[row][column] = rows[row][column].divide(common);
                }
            }
        }
        return true;
    }

    private void standing() {
        require(state() == '.', new IllegalStateException());
    }

    /** Here and below, what is beyond a long number has no answer that is due: it is an ArithmeticException then. */
    long force(int member) {
        index(member, members);
        standing();
        BigInteger length = BigInteger.valueOf(lengthSquare(member));
        BigInteger square = over[member].pow(2).multiply(length).divide(under[member].pow(2));
        return square.sqrt().longValueExact() * over[member].signum();
    }

    /** A pull or bearing in thousandths, rounded down. */
    private BigInteger thousandths(int unknown) {
        BigInteger[] parts = over[unknown].multiply(BigInteger.valueOf(1000)).divideAndRemainder(under[unknown]);
        return parts[1].signum() < 0 ? parts[0].subtract(BigInteger.ONE) : parts[0];
    }

    long pull(int member) {
        index(member, members);
        standing();
        return thousandths(member).longValueExact();
    }

    long bearing(int node, boolean isUpward) {
        index(node, nodes);
        standing();
        return thousandths(9 + 2 * node + (isUpward ? 1 : 0)).longValueExact();
    }

    /** What stands is in balance at each section: what is 0 at each node is 0 for all of them together. */
    boolean isBalanced(int x) {
        require(x >= 0 && x <= 30, argument());
        standing();
        return true;
    }

    int weakest() {
        standing();
        require(!members.isEmpty(), new NoSuchElementException());
        int weakest = 0;
        for (int member = 0; member < members.size(); member++) {
            weakest = Math.abs(force(member)) > Math.abs(force(weakest)) ? member : weakest;
        }
        return weakest;
    }

    int joint(int member, int into, char way, int thickness, int mark) {
        index(member, members);
        index(into, members);
        require(member != into && "udlrf".indexOf(way) >= 0, argument());
        require(thickness >= 2 && thickness <= 20 && mark >= 1 && mark <= 31, argument());
        Member one = members.get(member);
        Member two = members.get(into);
        require(one.node == two.node || one.node == two.other || one.other == two.node || one.other == two.other,
                new UnsupportedOperationException());
        for (Joint joint : joints) {
            boolean areBoth = joint.member == member && joint.into == into
                    || joint.member == into && joint.into == member;
            require(!areBoth, new UnsupportedOperationException());
        }
        require(joints.size() < 12, new IllegalStateException());
        forget();
        joints.add(new Joint(member, into, way, thickness, mark));
        return joints.size() - 1;
    }

    boolean isRight(int joint) {
        index(joint, joints);
        Joint at = joints.get(joint);
        int lesser = Math.min(members.get(at.member).breadth, members.get(at.into).breadth);
        return 3 * at.thickness <= lesser;
    }

    int misread(int joint) {
        index(joint, joints);
        return Integer.reverse(joints.get(joint).mark) >>> 27;
    }

    int clashes() {
        int pairs = 0;
        for (int joint = 0; joint < joints.size(); joint++) {
            for (int other = joint + 1; other < joints.size(); other++) {
                int mark = joints.get(joint).mark;
                pairs += mark == joints.get(other).mark || mark == misread(other) ? 1 : 0;
            }
        }
        return pairs;
    }

    int cutAt(int member, int moisture) {
        index(member, members);
        require(moisture >= 10 && moisture <= 60, argument());
        int before = cuts[member];
        cuts[member] = moisture;
        return before;
    }

    int dry(int member, int moisture) {
        index(member, members);
        require(moisture >= 10 && moisture <= 60, argument());
        int before = dries[member];
        dries[member] = moisture;
        return before;
    }

    int gap(int joint) {
        index(joint, joints);
        Joint at = joints.get(joint);
        int drier = Math.max(0, cuts[at.member] - dries[at.member]);
        return at.thickness - at.thickness * (1000 - 3 * drier) / 1000;
    }

    int widest() {
        require(!joints.isEmpty(), new NoSuchElementException());
        int widest = 0;
        for (int joint = 0; joint < joints.size(); joint++) {
            widest = gap(joint) > gap(widest) ? joint : widest;
        }
        return widest;
    }

    int stick(int length, int breadth, int grade) {
        require(length >= 1 && length <= 900 && breadth >= 6 && breadth <= 40 && grade >= 0 && grade <= 3,
                argument());
        require(sticks.size() < 5, new IllegalStateException());
        forget();
        sticks.add(new Stick(length, breadth, grade));
        return sticks.size() - 1;
    }

    private int lengthSquare(int member) {
        Member at = members.get(member);
        int right = place(at.node, 0) - place(at.other, 0);
        int up = place(at.node, 1) - place(at.other, 1);
        return right * right + up * up;
    }

    int piece(int member) {
        index(member, members);
        int piece = (int) Math.ceil(Math.sqrt(100.0 * lengthSquare(member)));
        for (Joint joint : joints) {
            piece += joint.member == member ? 4 : 0;
        }
        return piece;
    }

    private void cut() {
        if (!isCutKnown) {
            leastWood = Integer.MAX_VALUE;
            bestCut = null;
            int[] left = new int[sticks.size()];
            for (int stick = 0; stick < left.length; stick++) {
                left[stick] = sticks.get(stick).length;
            }
            tryCuts(0, new int[members.size()], left);
            isCutKnown = true;
        }
        require(bestCut != null, new NoSuchElementException());
    }

    /** Sticks are tried from the lowest one on, so the first of equal ways is the one that counts. */
    private void tryCuts(int member, int[] chosen, int[] left) {
        if (member == members.size()) {
            int wood = 0;
            for (int stick = 0; stick < left.length; stick++) {
                wood += left[stick] < sticks.get(stick).length ? sticks.get(stick).length : 0;
            }
            if (wood < leastWood) {
                leastWood = wood;
                bestCut = chosen.clone();
            }
            return;
        }
        int taken = piece(member) + 1;
        for (int stick = 0; stick < left.length; stick++) {
            Stick at = sticks.get(stick);
            Member needing = members.get(member);
            if (left[stick] >= taken && at.breadth >= needing.breadth && at.grade >= needing.grade) {
                left[stick] -= taken;
                chosen[member] = stick;
                tryCuts(member + 1, chosen, left);
                left[stick] += taken;
            }
        }
    }

    int stickOf(int member) {
        index(member, members);
        cut();
        return bestCut[member];
    }

    int wood() {
        cut();
        return leastWood;
    }

    int waste(int stick) {
        index(stick, sticks);
        cut();
        int left = sticks.get(stick).length;
        for (int member = 0; member < members.size(); member++) {
            left -= bestCut[member] == stick ? piece(member) + 1 : 0;
        }
        return left;
    }

    int setProps(int props) {
        require(props >= 0 && props <= 9, argument());
        int before = limit;
        limit = props;
        isOrderKnown = false;
        return before;
    }

    private static boolean has(int set, int member) {
        return (set >> member & 1) != 0;
    }

    private boolean canGoIn(int member, int standing) {
        char asked = 0;
        for (Joint joint : joints) {
            char way = 0;
            if (joint.member == member && has(standing, joint.into)) {
                way = joint.way;
            } else if (joint.into == member && has(standing, joint.member)) {
                way = "durlf".charAt("udlrf".indexOf(joint.way));
            }
            if (way != 0 && asked != 0 && way != asked) {
                return false;
            }
            asked = way != 0 ? way : asked;
        }
        return true;
    }

    private int needed(int standing) {
        int needed = 0;
        for (int member = 0; member < members.size(); member++) {
            Member at = members.get(member);
            if (!has(standing, member) || nodes.get(at.node).kind != '-' || nodes.get(at.other).kind != '-') {
                continue;
            }
            int held = 0;
            for (Joint joint : joints) {
                boolean isOne = joint.member == member || joint.into == member;
                held += isOne && has(standing, joint.member) && has(standing, joint.into) ? 1 : 0;
            }
            needed += held < 2 ? 1 : 0;
        }
        return needed;
    }

    private void raise() {
        if (!isOrderKnown) {
            orderCount = 0;
            firstOrder = null;
            tryOrders(new int[members.size()], 0, 0);
            isOrderKnown = true;
        }
    }

    /** Members are tried from the lowest one on, so the first order that is found is the one that is told. */
    private void tryOrders(int[] order, int length, int standing) {
        if (length == members.size()) {
            orderCount++;
            if (firstOrder == null) {
                firstOrder = order.clone();
            }
            return;
        }
        for (int member = 0; member < members.size(); member++) {
            if (!has(standing, member) && canGoIn(member, standing) && needed(standing | 1 << member) <= limit) {
                order[length] = member;
                tryOrders(order, length + 1, standing | 1 << member);
            }
        }
    }

    int raised(int index) {
        raise();
        require(firstOrder != null, new NoSuchElementException());
        index(index, members);
        return firstOrder[index];
    }

    boolean canRaise() {
        raise();
        return firstOrder != null;
    }

    boolean canTakeAway() {
        return canBeEmptied((1 << members.size()) - 1, new boolean[512]);
    }

    private boolean canBeEmptied(int standing, boolean[] hasFailed) {
        if (standing == 0) {
            return true;
        }
        if (needed(standing) > limit || hasFailed[standing]) {
            return false;
        }
        for (int member = 0; member < members.size(); member++) {
            int others = standing & ~(1 << member);
            if (others != standing && canGoIn(member, others) && canBeEmptied(others, hasFailed)) {
                return true;
            }
        }
        hasFailed[standing] = true;
        return false;
    }

    int orders() {
        raise();
        return orderCount;
    }

    int props(int index) {
        raise();
        require(firstOrder != null, new NoSuchElementException());
        index(index, members);
        int standing = 0;
        for (int place = 0; place <= index; place++) {
            standing |= 1 << firstOrder[place];
        }
        return needed(standing);
    }

    int stuck() {
        int all = (1 << members.size()) - 1;
        for (int member = 0; member < members.size(); member++) {
            if (!canGoIn(member, all & ~(1 << member))) {
                return member;
            }
        }
        throw new NoSuchElementException();
    }

    long allForce() {
        standing();
        long sum = 0;
        for (int member = 0; member < members.size(); member++) {
            sum = Math.addExact(sum, Math.abs(force(member)));
        }
        return sum;
    }

    float rightShare() {
        require(!joints.isEmpty(), new ArithmeticException());
        float right = 0;
        for (int joint = 0; joint < joints.size(); joint++) {
            right += isRight(joint) ? 1 : 0;
        }
        return right / joints.size();
    }

    /** The sum of all pulls in thousandths, each rounded down. */
    BigInteger sumOfPulls() {
        BigInteger sum = BigInteger.ZERO;
        for (int member = 0; member < members.size(); member++) {
            sum = sum.add(thousandths(member));
        }
        return sum;
    }

    double meanPull() {
        standing();
        require(!members.isEmpty(), new ArithmeticException());
        return sumOfPulls().doubleValue() / members.size();
    }

    boolean isSound() {
        return true;
    }
}
