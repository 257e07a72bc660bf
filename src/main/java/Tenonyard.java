import java.util.NoSuchElementException;

/** A yard where frames of timber are proved, joined, dried, cut from sticks and raised. */
public final class Tenonyard {
    private static final int NODES = 8;
    private static final int MEMBERS = 9;
    private static final int JOINTS = 12;
    private static final int STICKS = 5;
    private static final int GREATEST_PLACE = 30;
    private static final int GREATEST_GRADE = 3;
    /** A set of members is a number with one bit for each of them. */
    private static final int SETS = 1 << MEMBERS;
    private static final int RIGHT = 0;
    private static final int UP = 1;
    private static final String KINDS = "-pr";
    private static final char FREE = '-';
    private static final char PINNED = 'p';
    private static final char ON_ROLLER = 'r';
    private static final char STANDING = '.';

    private final Frame frame;
    private final Forces forces;
    private final Joinery joinery;
    private final Cutting cutting;
    private final Raising raising;

    public Tenonyard() {
        frame = new Frame();
        forces = new Forces();
        joinery = new Joinery();
        cutting = new Cutting();
        raising = new Raising();
    }

    public int node(int x, int y, char kind) throws IllegalArgumentException, IllegalStateException {
        if (!isWithin(x, 0, GREATEST_PLACE) || !isWithin(y, 0, GREATEST_PLACE) || KINDS.indexOf(kind) < 0) {
            throw new IllegalArgumentException("no such place or kind");
        }
        if (frame.nodes >= NODES) {
            throw new IllegalStateException("no more nodes");
        }
        forces.isFound = false;
        return frame.addNode(x, y, kind);
    }

    public int member(int node, int other, int breadth, int grade)
            throws IndexOutOfBoundsException, IllegalArgumentException, IllegalStateException {
        checkNode(node);
        checkNode(other);
        if (frame.isOnePlace(node, other) || !isSection(breadth, grade)) {
            throw new IllegalArgumentException("one place, or no such breadth or grade");
        }
        if (frame.members >= MEMBERS) {
            throw new IllegalStateException("no more members");
        }
        forces.isFound = false;
        cutting.isFound = false;
        raising.isFound = false;
        return frame.addMember(node, other, breadth, grade);
    }

    public int load(int node, int right, int up) throws IndexOutOfBoundsException, IllegalArgumentException {
        checkNode(node);
        if (!isWithin(right, -999, 999) || !isWithin(up, -999, 999)) {
            throw new IllegalArgumentException("no such load");
        }
        forces.isFound = false;
        return frame.addLoad(node, right, up);
    }

    public char state() {
        forces.find(frame);
        return forces.outcome;
    }

    public long force(int member) throws IndexOutOfBoundsException, IllegalStateException {
        checkMember(member);
        checkStanding();
        return forces.amounts[member];
    }

    public long pull(int member) throws IndexOutOfBoundsException, IllegalStateException {
        checkMember(member);
        checkStanding();
        return forces.thousandths(member);
    }

    public long bearing(int node, boolean isUpward) throws IndexOutOfBoundsException, IllegalStateException {
        checkNode(node);
        checkStanding();
        return forces.thousandths(forces.bearingIndex(node, isUpward ? UP : RIGHT));
    }

    public boolean isBalanced(int x) throws IllegalArgumentException, IllegalStateException {
        if (!isWithin(x, 0, GREATEST_PLACE)) {
            throw new IllegalArgumentException("no such section");
        }
        checkStanding();
        return forces.holdsAt(frame, x);
    }

    public int weakest() throws IllegalStateException, NoSuchElementException {
        checkStanding();
        if (frame.members == 0) {
            throw new NoSuchElementException("no members");
        }
        int weakest = 0;
        for (int member = 1; member < frame.members; member++) {
            if (Math.abs(forces.amounts[member]) > Math.abs(forces.amounts[weakest])) {
                weakest = member;
            }
        }
        return weakest;
    }

    public int joint(int member, int into, char way, int thickness, int mark)
            throws IndexOutOfBoundsException, IllegalArgumentException, UnsupportedOperationException,
            IllegalStateException {
        checkMember(member);
        checkMember(into);
        if (member == into || joinery.wayIndex(way) < 0 || !isWithin(thickness, 2, 20) || !isWithin(mark, 1, 31)) {
            throw new IllegalArgumentException("one member, or no such way, thickness or mark");
        }
        if (!frame.haveCommonNode(member, into) || joinery.areJoined(member, into)) {
            throw new UnsupportedOperationException("no node in common, or joined already");
        }
        if (joinery.count >= JOINTS) {
            throw new IllegalStateException("no more joints");
        }
        cutting.isFound = false;
        raising.isFound = false;
        return joinery.add(member, into, joinery.wayIndex(way), thickness, mark);
    }

    public boolean isRight(int joint) throws IndexOutOfBoundsException {
        checkJoint(joint);
        return joinery.isThinEnough(joint, frame);
    }

    public int misread(int joint) throws IndexOutOfBoundsException {
        checkJoint(joint);
        return joinery.misreadMark(joint);
    }

    public int clashes() {
        int pairs = 0;
        for (int joint = 0; joint < joinery.count; joint++) {
            for (int other = 0; other < joint; other++) {
                pairs += joinery.canBeConfused(joint, other) ? 1 : 0;
            }
        }
        return pairs;
    }

    public int cutAt(int member, int moisture) throws IndexOutOfBoundsException, IllegalArgumentException {
        checkMember(member);
        checkMoisture(moisture);
        int before = frame.cutMoistures[member];
        frame.cutMoistures[member] = moisture;
        return before;
    }

    public int dry(int member, int moisture) throws IndexOutOfBoundsException, IllegalArgumentException {
        checkMember(member);
        checkMoisture(moisture);
        int before = frame.driedMoistures[member];
        frame.driedMoistures[member] = moisture;
        return before;
    }

    public int gap(int joint) throws IndexOutOfBoundsException {
        checkJoint(joint);
        return joinery.opening(joint, frame);
    }

    public int widest() throws NoSuchElementException {
        if (joinery.count == 0) {
            throw new NoSuchElementException("no joints");
        }
        int widest = 0;
        for (int joint = 1; joint < joinery.count; joint++) {
            if (joinery.opening(joint, frame) > joinery.opening(widest, frame)) {
                widest = joint;
            }
        }
        return widest;
    }

    public int stick(int length, int breadth, int grade) throws IllegalArgumentException, IllegalStateException {
        if (!isWithin(length, 1, 900) || !isSection(breadth, grade)) {
            throw new IllegalArgumentException("no such length, breadth or grade");
        }
        if (cutting.count >= STICKS) {
            throw new IllegalStateException("no more sticks");
        }
        cutting.isFound = false;
        return cutting.add(length, breadth, grade);
    }

    public int piece(int member) throws IndexOutOfBoundsException {
        checkMember(member);
        return cutting.pieceLength(member, frame, joinery);
    }

    public int stickOf(int member) throws IndexOutOfBoundsException, NoSuchElementException {
        checkMember(member);
        checkCut();
        return cutting.chosen[member];
    }

    public int wood() throws NoSuchElementException {
        checkCut();
        return cutting.usedLength;
    }

    public int waste(int stick) throws IndexOutOfBoundsException, NoSuchElementException {
        if (stick < 0 || stick >= cutting.count) {
            throw new IndexOutOfBoundsException("no such stick");
        }
        checkCut();
        return cutting.leftOf(stick, frame.members);
    }

    public int setProps(int props) throws IllegalArgumentException {
        if (!isWithin(props, 0, 9)) {
            throw new IllegalArgumentException("no such number of props");
        }
        int before = raising.limit;
        raising.limit = props;
        raising.isFound = false;
        return before;
    }

    public int raised(int index) throws NoSuchElementException, IndexOutOfBoundsException {
        checkPlaceInOrder(index);
        return raising.order[index];
    }

    public boolean canRaise() {
        raising.find(frame, joinery);
        return raising.orderCount() > 0;
    }

    public boolean canTakeAway() {
        raising.find(frame, joinery);
        return raising.leadsToAll[0];
    }

    public int orders() {
        raising.find(frame, joinery);
        return raising.orderCount();
    }

    public int props(int index) throws NoSuchElementException, IndexOutOfBoundsException {
        checkPlaceInOrder(index);
        int standing = 0;
        for (int place = 0; place <= index; place++) {
            standing |= 1 << raising.order[place];
        }
        return raising.propsFor(standing);
    }

    public int stuck() throws NoSuchElementException {
        raising.find(frame, joinery);
        int lowest = raising.lowestStuck();
        if (lowest < 0) {
            throw new NoSuchElementException("each can be the last one");
        }
        return lowest;
    }

    public long allForce() throws IllegalStateException {
        checkStanding();
        long sum = 0;
        for (int member = 0; member < frame.members; member++) {
            sum += Math.abs(forces.amounts[member]);
        }
        return sum;
    }

    public float rightShare() throws ArithmeticException {
        if (joinery.count == 0) {
            throw new ArithmeticException("no joints");
        }
        int right = 0;
        for (int joint = 0; joint < joinery.count; joint++) {
            right += joinery.isThinEnough(joint, frame) ? 1 : 0;
        }
        return (float) right / (float) joinery.count;
    }

    public double meanPull() throws IllegalStateException, ArithmeticException {
        checkStanding();
        if (frame.members == 0) {
            throw new ArithmeticException("no members");
        }
        return forces.sumOfThousandths(frame.members) / (double) frame.members;
    }

    public boolean isSound() {
        forces.find(frame);
        if (forces.outcome == STANDING) {
            for (int x = 0; x <= GREATEST_PLACE; x++) {
                if (!forces.holdsAt(frame, x)) {
                    return false;
                }
            }
        }
        return canRaise() == canTakeAway();
    }

    private static boolean isWithin(int number, int least, int greatest) {
        return number >= least && number <= greatest;
    }

    private static boolean isSection(int breadth, int grade) {
        return isWithin(breadth, 6, 40) && isWithin(grade, 0, GREATEST_GRADE);
    }

    private void checkNode(int node) {
        if (node < 0 || node >= frame.nodes) {
            throw new IndexOutOfBoundsException("no such node");
        }
    }

    private void checkMember(int member) {
        if (member < 0 || member >= frame.members) {
            throw new IndexOutOfBoundsException("no such member");
        }
    }

    private void checkJoint(int joint) {
        if (joint < 0 || joint >= joinery.count) {
            throw new IndexOutOfBoundsException("no such joint");
        }
    }

    private void checkMoisture(int moisture) {
        if (!isWithin(moisture, 10, 60)) {
            throw new IllegalArgumentException("no such moisture");
        }
    }

    private void checkStanding() {
        forces.find(frame);
        if (forces.outcome != STANDING) {
            throw new IllegalStateException("the frame does not stand");
        }
    }

    private void checkCut() {
        cutting.find(frame, joinery);
        if (!cutting.canCut) {
            throw new NoSuchElementException("no way to cut all members");
        }
    }

    private void checkPlaceInOrder(int index) {
        raising.find(frame, joinery);
        if (raising.orderCount() == 0) {
            throw new NoSuchElementException("no order");
        }
        if (index < 0 || index >= frame.members) {
            throw new IndexOutOfBoundsException("no such index");
        }
    }

    /** The nodes with their loads, and the members between them. */
    private static final class Frame {
        int nodes;
        int members;
        /** x and y of each node, one behind the other; the loads in the same way. */
        final int[] places = new int[2 * NODES];
        final int[] loads = new int[2 * NODES];
        final int[] loadCounts = new int[NODES];
        final char[] kinds = new char[NODES];
        final int[] firstNodes = new int[MEMBERS];
        final int[] secondNodes = new int[MEMBERS];
        final int[] breadths = new int[MEMBERS];
        final int[] grades = new int[MEMBERS];
        final int[] cutMoistures = new int[MEMBERS];
        final int[] driedMoistures = new int[MEMBERS];

        int addNode(int x, int y, char kind) {
            int node = nodes;
            places[2 * node + RIGHT] = x;
            places[2 * node + UP] = y;
            kinds[node] = kind;
            nodes = node + 1;
            return node;
        }

        int addMember(int node, int other, int breadth, int grade) {
            int member = members;
            firstNodes[member] = node;
            secondNodes[member] = other;
            breadths[member] = breadth;
            grades[member] = grade;
            cutMoistures[member] = 30;
            driedMoistures[member] = 30;
            members = member + 1;
            return member;
        }

        int addLoad(int node, int right, int up) {
            loads[2 * node + RIGHT] += right;
            loads[2 * node + UP] += up;
            loadCounts[node]++;
            return loadCounts[node];
        }

        boolean isOnePlace(int node, int other) {
            return places[2 * node + RIGHT] == places[2 * other + RIGHT]
                    && places[2 * node + UP] == places[2 * other + UP];
        }

        boolean isBorne(int node, int axis) {
            return kinds[node] == PINNED || kinds[node] == ON_ROLLER && axis == UP;
        }

        /** The node at the other end of a member, -1 if the member does not end at this node. */
        int otherEnd(int member, int node) {
            if (firstNodes[member] == node) {
                return secondNodes[member];
            }
            return secondNodes[member] == node ? firstNodes[member] : -1;
        }

        boolean haveCommonNode(int member, int other) {
            return otherEnd(member, firstNodes[other]) >= 0 || otherEnd(member, secondNodes[other]) >= 0;
        }

        /** The way along an axis from this node to the other end of a member, 0 if it does not end here. */
        int wayAlong(int member, int node, int axis) {
            int other = otherEnd(member, node);
            return other < 0 ? 0 : places[2 * other + axis] - places[2 * node + axis];
        }

        int lengthSquare(int member) {
            int node = 2 * firstNodes[member];
            int other = 2 * secondNodes[member];
            int right = places[other + RIGHT] - places[node + RIGHT];
            int up = places[other + UP] - places[node + UP];
            return right * right + up * up;
        }

        boolean isOnGround(int member) {
            return kinds[firstNodes[member]] != FREE || kinds[secondNodes[member]] != FREE;
        }
    }

    /**
     * The pulls and bearings of a frame. Each is a whole number and a rest, of 0 to less than the
     * divisor that all have in common, in parts of that divisor.
     */
    private static final class Forces {
        private static final int UNKNOWNS = MEMBERS + 2 * NODES;
        /** More than the length of any member. */
        private static final int LENGTH_BOUND = 43;
        private static final long GREATEST = 0x7fffffffffffffffL;

        boolean isFound;
        char outcome;
        private long divisor;
        private final long[] wholes = new long[UNKNOWNS];
        private final long[] rests = new long[UNKNOWNS];
        /** The force of each member. */
        final long[] amounts = new long[MEMBERS];

        /** Where nothing bears, what members draw is what is asked: one row for each such equation. */
        private final int[] ways = new int[MEMBERS * MEMBERS];
        /**
         * What is asked is split in 256 times a high part and a low part, as a determinant that holds
         * all of it can be beyond a long number, while one that holds a part can't.
         */
        private final int[] highAsked = new int[MEMBERS];
        private final int[] lowAsked = new int[MEMBERS];
        /** For each set of members the determinant of their columns, in as many of the first rows. */
        private final long[] plain = new long[SETS];
        /** The same with what is asked as the last column, in one row more. */
        private final long[] high = new long[SETS];
        private final long[] low = new long[SETS];

        private final Wide factor = new Wide();
        private final Wide wideDivisor = new Wide();
        private final Wide product = new Wide();
        private final Wide square = new Wide();
        private final Wide greatestSquare = new Wide();

        int bearingIndex(int node, int axis) {
            return MEMBERS + 2 * node + axis;
        }

        void find(Frame frame) {
            if (isFound) {
                return;
            }
            outcome = findPulls(frame);
            if (outcome == STANDING) {
                findBearings(frame);
                findAmounts(frame);
            }
            isFound = true;
        }

        private char findPulls(Frame frame) {
            int rows = 0;
            for (int node = 0; node < frame.nodes; node++) {
                rows += frame.isBorne(node, RIGHT) ? 0 : 1;
                rows += frame.isBorne(node, UP) ? 0 : 1;
            }
            if (frame.members != rows) {
                return frame.members < rows ? 'l' : 't';
            }
            fillRows(frame);
            findDeterminants(rows);
            long determinant = plain[(1 << rows) - 1];
            if (determinant == 0) {
                return 'c';
            }
            divisor = Math.abs(determinant);
            for (int member = 0; member < rows; member++) {
                boolean isTurned = (rows - 1 - member) % 2 != 0;
                setPull(member, (1 << rows) - 1, isTurned == (determinant > 0) ? -1 : 1);
            }
            return STANDING;
        }

        private void fillRows(Frame frame) {
            int row = 0;
            for (int place = 0; place < 2 * frame.nodes && row < MEMBERS; place++) {
                int node = place / 2;
                int axis = place % 2;
                if (frame.isBorne(node, axis)) {
                    continue;
                }
                for (int member = 0; member < frame.members; member++) {
                    ways[row * MEMBERS + member] = frame.wayAlong(member, node, axis);
                }
                highAsked[row] = -frame.loads[place] >> 8;
                lowAsked[row] = -frame.loads[place] & 255;
                row++;
            }
        }

        /** Expands each determinant along its last row; what goes beyond a long number on the way comes back. */
        private void findDeterminants(int rows) {
            for (int set = 0; set < 1 << rows; set++) {
                int row = Integer.bitCount(set);
                plain[set] = set == 0 ? 1 : expanded(plain, set, row - 1);
                if (row < rows) {
                    high[set] = highAsked[row] * plain[set] - expanded(high, set, row);
                    low[set] = lowAsked[row] * plain[set] - expanded(low, set, row);
                }
            }
        }

        private long expanded(long[] determinants, int set, int row) {
            long sum = 0;
            long sign = 1;
            for (int member = MEMBERS - 1; member >= 0; member--) {
                if ((set >> member & 1) != 0) {
                    sum += sign * ways[row * MEMBERS + member] * determinants[set ^ 1 << member];
                    sign = -sign;
                }
            }
            return sum;
        }

        private void setPull(int member, int all, int sign) {
            long highPart = sign * high[all ^ 1 << member];
            long lowPart = sign * low[all ^ 1 << member];
            if (divisor > 0) {
                wholes[member] = 256 * Math.floorDiv(highPart, divisor);
                rests[member] = 256 * Math.floorMod(highPart, divisor) + lowPart;
                carry(member);
            }
        }

        private void carry(int index) {
            if (divisor > 0) {
                wholes[index] += Math.floorDiv(rests[index], divisor);
                rests[index] = Math.floorMod(rests[index], divisor);
            }
        }

        private void findBearings(Frame frame) {
            for (int place = 0; place < 2 * frame.nodes; place++) {
                int index = MEMBERS + place;
                wholes[index] = 0;
                rests[index] = 0;
                if (!frame.isBorne(place / 2, place % 2)) {
                    continue;
                }
                wholes[index] = -frame.loads[place];
                for (int member = 0; member < frame.members; member++) {
                    int way = frame.wayAlong(member, place / 2, place % 2);
                    wholes[index] -= way * wholes[member];
                    rests[index] -= way * rests[member];
                }
                carry(index);
            }
        }

        private void findAmounts(Frame frame) {
            wideDivisor.set(divisor);
            for (int member = 0; member < frame.members; member++) {
                long whole = wholes[member];
                long rest = rests[member];
                int lengthSquare = frame.lengthSquare(member);
                if (whole < 0) {
                    amounts[member] = -timesLength(-1 - whole, divisor - rest, lengthSquare);
                } else {
                    amounts[member] = timesLength(whole, rest, lengthSquare);
                }
            }
        }

        /** The greatest whole number whose square is at most that of a pull, not below 0, times that of the length. */
        private long timesLength(long whole, long rest, int lengthSquare) {
            factor.set(whole);
            product.setProduct(factor, wideDivisor);
            product.add(rest);
            square.setProduct(product, product);
            factor.set(lengthSquare);
            greatestSquare.setProduct(square, factor);
            long least = whole;
            long greatest = whole < GREATEST / LENGTH_BOUND ? (whole + 1) * LENGTH_BOUND : GREATEST;
            for (int step = 0; step < 64 && least < greatest; step++) {
                long middle = greatest - (greatest - least) / 2;
                factor.set(middle);
                product.setProduct(factor, wideDivisor);
                square.setProduct(product, product);
                if (square.isAtMost(greatestSquare)) {
                    least = middle;
                } else {
                    greatest = middle - 1;
                }
            }
            return least;
        }

        /** A pull or bearing in thousandths, rounded down. */
        long thousandths(int index) {
            return 1000 * wholes[index] + restInThousandths(index);
        }

        /** Digit by digit, as a thousand rests can be beyond a long number. */
        private long restInThousandths(int index) {
            long thousandths = 0;
            long rest = rests[index];
            for (int digit = 0; digit < 3 && divisor > 0; digit++) {
                thousandths = 10 * thousandths + 10 * rest / divisor;
                rest = 10 * rest % divisor;
            }
            return thousandths;
        }

        /**
         * The double nearest to the sum of all pulls in thousandths, as this can be beyond a long number. Its
         * two parts fit a double exactly, so that it is their one addition alone that rounds.
         */
        double sumOfThousandths(int members) {
            long high = 0;
            long low = 0;
            for (int member = 0; member < members; member++) {
                high += 1000 * (wholes[member] >> 32);
                low += 1000 * (wholes[member] & Wide.PART) + restInThousandths(member);
            }
            return (double) high * (double) (1L << 32) + (double) low;
        }

        boolean holdsAt(Frame frame, int x) {
            return holdsAlong(frame, x, RIGHT) && holdsAlong(frame, x, UP);
        }

        private boolean holdsAlong(Frame frame, int x, int axis) {
            long whole = 0;
            long rest = 0;
            for (int node = 0; node < frame.nodes; node++) {
                if (frame.places[2 * node + RIGHT] > x) {
                    continue;
                }
                whole += frame.loads[2 * node + axis] + wholes[bearingIndex(node, axis)];
                rest += rests[bearingIndex(node, axis)];
                for (int member = 0; member < frame.members; member++) {
                    int other = frame.otherEnd(member, node);
                    if (other >= 0 && frame.places[2 * other + RIGHT] > x) {
                        int way = frame.wayAlong(member, node, axis);
                        whole += way * wholes[member];
                        rest += way * rests[member];
                    }
                }
            }
            return divisor > 0 && rest % divisor == 0 && whole + rest / divisor == 0;
        }
    }

    /** A whole number from 0 to less than 2 to the 256, lowest 32 bits first. */
    private static final class Wide {
        private static final int PARTS = 8;
        static final long PART = 0xffffffffL;

        private final long[] parts = new long[PARTS];

        void set(long number) {
            for (int index = 2; index < PARTS; index++) {
                parts[index] = 0;
            }
            parts[0] = number & PART;
            parts[1] = number >>> 32;
        }

        void add(long number) {
            long carry = number;
            for (int index = 0; index < PARTS; index++) {
                long sum = parts[index] + (carry & PART);
                parts[index] = sum & PART;
                carry = (carry >>> 32) + (sum >>> 32);
            }
        }

        void setProduct(Wide one, Wide other) {
            for (int index = 0; index < PARTS; index++) {
                parts[index] = 0;
            }
            for (int index = 0; index < PARTS; index++) {
                long carry = 0;
                for (int place = index; place < PARTS; place++) {
                    carry += one.parts[index] * other.parts[place - index] + parts[place];
                    parts[place] = carry & PART;
                    carry >>>= 32;
                }
            }
        }

        boolean isAtMost(Wide other) {
            for (int index = PARTS - 1; index >= 0; index--) {
                if (parts[index] != other.parts[index]) {
                    return parts[index] < other.parts[index];
                }
            }
            return true;
        }
    }

    /** The joints with their ways, thicknesses and marks. */
    private static final class Joinery {
        /** A way is known by its index here, so that the other way round differs in the last bit alone. */
        private static final String WAY_SIGNS = "udlrf";
        static final int WAYS = 5;
        private static final int FRONT = 4;
        private static final int MARK_BITS = 5;

        int count;
        private final int[] goingIn = new int[JOINTS];
        private final int[] receiving = new int[JOINTS];
        private final int[] ways = new int[JOINTS];
        private final int[] thicknesses = new int[JOINTS];
        private final int[] marks = new int[JOINTS];

        int wayIndex(char way) {
            return WAY_SIGNS.indexOf(way);
        }

        int add(int member, int into, int way, int thickness, int mark) {
            int joint = count;
            goingIn[joint] = member;
            receiving[joint] = into;
            ways[joint] = way;
            thicknesses[joint] = thickness;
            marks[joint] = mark;
            count = joint + 1;
            return joint;
        }

        boolean areJoined(int member, int other) {
            for (int joint = 0; joint < count; joint++) {
                if (partner(joint, member) == other) {
                    return true;
                }
            }
            return false;
        }

        /** The member to which a joint joins this one, -1 if it does not join it. */
        int partner(int joint, int member) {
            if (goingIn[joint] == member) {
                return receiving[joint];
            }
            return receiving[joint] == member ? goingIn[joint] : -1;
        }

        /** The way that a joint asks for, when this one of its members goes in behind the other. */
        int wayFor(int joint, int member) {
            int way = ways[joint];
            if (goingIn[joint] == member || way == FRONT) {
                return way;
            }
            return way ^ 1;
        }

        int joinsGoingIn(int member) {
            int found = 0;
            for (int joint = 0; joint < count; joint++) {
                found += goingIn[joint] == member ? 1 : 0;
            }
            return found;
        }

        boolean isThinEnough(int joint, Frame frame) {
            int breadth = frame.breadths[goingIn[joint]];
            int other = frame.breadths[receiving[joint]];
            return thicknesses[joint] <= Math.min(breadth, other) / 3;
        }

        int misreadMark(int joint) {
            int misread = 0;
            for (int bit = 0; bit < MARK_BITS; bit++) {
                misread = misread << 1 | marks[joint] >> bit & 1;
            }
            return misread;
        }

        boolean canBeConfused(int joint, int other) {
            return marks[joint] == marks[other] || misreadMark(joint) == marks[other];
        }

        int opening(int joint, Frame frame) {
            int member = goingIn[joint];
            int drier = frame.cutMoistures[member] - frame.driedMoistures[member];
            int thickness = thicknesses[joint];
            return drier > 0 ? thickness - thickness * (1000 - 3 * drier) / 1000 : 0;
        }
    }

    /** The sticks, and the best way to cut all members from them. */
    private static final class Cutting {
        /** As many as there are ways to tell each member a stick. */
        private static final int CHOICES = 5 * 5 * 5 * 5 * 5 * 5 * 5 * 5 * 5;
        private static final long NO_WAY = 1L << 62;
        /** The least whole number whose square is at least 100 * (30 * 30 + 30 * 30). */
        private static final int LONGEST = 425;

        int count;
        boolean isFound;
        boolean canCut;
        int usedLength;
        final int[] chosen = new int[MEMBERS];
        private final int[] lengths = new int[STICKS];
        private final int[] breadths = new int[STICKS];
        private final int[] grades = new int[STICKS];
        /** For each set of members the length of stick that they take. */
        private final int[] spans = new int[SETS];
        /** For each set of members by how much their choices count for each number of a stick. */
        private final int[] weights = new int[SETS];
        /**
         * For each set of members the least cost of cutting them from the sticks so far: the length of
         * sticks times CHOICES, and the sticks of the members as digits, that of member 0 first. So of
         * ways that use as much, the one with the lowest stick for member 0 costs less, and so on.
         */
        private final long[] costs = new long[SETS];

        int add(int length, int breadth, int grade) {
            int stick = count;
            lengths[stick] = length;
            breadths[stick] = breadth;
            grades[stick] = grade;
            count = stick + 1;
            return stick;
        }

        int pieceLength(int member, Frame frame, Joinery joinery) {
            int square = 100 * frame.lengthSquare(member);
            int length = 0;
            while (length < LONGEST && length * length < square) {
                length++;
            }
            return length + 4 * joinery.joinsGoingIn(member);
        }

        void find(Frame frame, Joinery joinery) {
            if (isFound) {
                return;
            }
            int sets = 1 << frame.members;
            measure(frame, joinery);
            for (int set = 0; set < sets; set++) {
                costs[set] = set == 0 ? 0 : NO_WAY;
            }
            for (int stick = 0; stick < count; stick++) {
                offer(stick, sets, fitting(stick, frame));
            }
            choose(costs[sets - 1]);
            isFound = true;
        }

        private void measure(Frame frame, Joinery joinery) {
            int weight = CHOICES / STICKS;
            for (int member = 0; member < frame.members; member++) {
                int span = pieceLength(member, frame, joinery) + 1;
                int bit = 1 << member;
                for (int set = bit; set < 2 * bit; set++) {
                    spans[set] = spans[set - bit] + span;
                    weights[set] = weights[set - bit] + weight;
                }
                weight /= STICKS;
            }
        }

        /** The members for which a stick is broad and good enough. */
        private int fitting(int stick, Frame frame) {
            int set = 0;
            for (int member = 0; member < frame.members; member++) {
                if (frame.breadths[member] <= breadths[stick] && frame.grades[member] <= grades[stick]) {
                    set |= 1 << member;
                }
            }
            return set;
        }

        /** Goes from large sets to small ones, so that the costs of smaller ones are still without this stick. */
        private void offer(int stick, int sets, int fitting) {
            for (int set = sets - 1; set > 0; set--) {
                int most = set & fitting;
                for (int cut = most; cut > 0; cut = cut - 1 & most) {
                    long others = costs[set ^ cut];
                    if (spans[cut] > lengths[stick] || others == NO_WAY) {
                        continue;
                    }
                    long cost = others + (long) lengths[stick] * CHOICES + (long) stick * weights[cut];
                    costs[set] = Math.min(costs[set], cost);
                }
            }
        }

        private void choose(long cost) {
            canCut = cost != NO_WAY;
            if (!canCut) {
                return;
            }
            usedLength = (int) (cost / CHOICES);
            int choices = (int) (cost % CHOICES);
            for (int member = MEMBERS - 1; member >= 0; member--) {
                chosen[member] = choices % STICKS;
                choices /= STICKS;
            }
        }

        int leftOf(int stick, int members) {
            int cut = 0;
            for (int member = 0; member < members; member++) {
                cut |= chosen[member] == stick ? 1 << member : 0;
            }
            return lengths[stick] - spans[cut];
        }
    }

    /** The orders of raising, found forward from nothing and backward from the whole frame. */
    private static final class Raising {
        int limit = 2;
        boolean isFound;
        private int all;
        /** The members that stand on no pinned node or roller. */
        private int hanging;
        /** For each member and each way the members with which a joint asks it for that way. */
        private final int[] asking = new int[MEMBERS * Joinery.WAYS];
        private final int[] joined = new int[MEMBERS];
        /** For each set of members in how many orders they come to stand, found forward. */
        private final int[] orderCounts = new int[SETS];
        /** For each set of members whether all others can follow, found backward. */
        final boolean[] leadsToAll = new boolean[SETS];
        /** The first order, if there is one. */
        final int[] order = new int[MEMBERS];

        int orderCount() {
            return orderCounts[all];
        }

        void find(Frame frame, Joinery joinery) {
            if (isFound) {
                return;
            }
            all = (1 << frame.members) - 1;
            gather(frame, joinery);
            goForward(frame.members);
            goBackward(frame.members);
            findOrder(frame.members);
            isFound = true;
        }

        private void gather(Frame frame, Joinery joinery) {
            hanging = 0;
            for (int member = 0; member < frame.members; member++) {
                hanging |= frame.isOnGround(member) ? 0 : 1 << member;
                joined[member] = 0;
                for (int way = 0; way < Joinery.WAYS; way++) {
                    asking[member * Joinery.WAYS + way] = 0;
                }
                for (int joint = 0; joint < joinery.count; joint++) {
                    int partner = joinery.partner(joint, member);
                    if (partner >= 0) {
                        joined[member] |= 1 << partner;
                        asking[member * Joinery.WAYS + joinery.wayFor(joint, member)] |= 1 << partner;
                    }
                }
            }
        }

        /** Whether the joints of a member with standing ones all ask for one way. */
        private boolean canMoveIn(int member, int standing) {
            int asked = 0;
            for (int way = 0; way < Joinery.WAYS; way++) {
                asked += (asking[member * Joinery.WAYS + way] & standing) != 0 ? 1 : 0;
            }
            return asked <= 1;
        }

        int propsFor(int standing) {
            int needed = 0;
            for (int member = 0; member < MEMBERS; member++) {
                boolean canNeed = (standing & hanging & 1 << member) != 0;
                if (canNeed && Integer.bitCount(joined[member] & standing) < 2) {
                    needed++;
                }
            }
            return needed;
        }

        private void goForward(int members) {
            orderCounts[0] = 1;
            for (int set = 1; set <= all; set++) {
                orderCounts[set] = 0;
                boolean areEnough = propsFor(set) <= limit;
                for (int last = 0; last < members && areEnough; last++) {
                    int before = set & ~(1 << last);
                    if (before != set && orderCounts[before] > 0 && canMoveIn(last, before)) {
                        orderCounts[set] += orderCounts[before];
                    }
                }
            }
        }

        private void goBackward(int members) {
            for (int set = 0; set <= all; set++) {
                leadsToAll[set] = set == all;
            }
            for (int set = all; set > 0; set--) {
                boolean canTakeFrom = leadsToAll[set] && propsFor(set) <= limit;
                for (int last = 0; last < members && canTakeFrom; last++) {
                    int before = set & ~(1 << last);
                    if (before != set && canMoveIn(last, before)) {
                        leadsToAll[before] = true;
                    }
                }
            }
        }

        private void findOrder(int members) {
            int standing = 0;
            for (int index = 0; index < members; index++) {
                int next = firstThatLeads(standing, members);
                if (next < 0) {
                    return;
                }
                order[index] = next;
                standing |= 1 << next;
            }
        }

        /** The lowest member that can follow on those that stand, and then all others; -1 if there is none. */
        private int firstThatLeads(int standing, int members) {
            for (int member = 0; member < members; member++) {
                int after = standing | 1 << member;
                boolean leads = after != standing && leadsToAll[after] && propsFor(after) <= limit;
                if (leads && canMoveIn(member, standing)) {
                    return member;
                }
            }
            return -1;
        }

        int lowestStuck() {
            for (int member = 0; member < MEMBERS; member++) {
                int bit = 1 << member;
                if ((all & bit) != 0 && !canMoveIn(member, all ^ bit)) {
                    return member;
                }
            }
            return -1;
        }
    }
}
