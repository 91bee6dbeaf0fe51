import java.util.Arrays;

/**
 * What lies between in a network: least ways and how many there are, how much of them goes through
 * a node, an arc or a group of nodes, how near a node is to the others, how far current goes
 * through it; all as exact fractions.
 *
 * <p>All rows are made by the constructor and used again, so that no call makes an object.
 */
public final class BetweenCounts {
    public static final int NONE = -1;

    private static final int MAX_NODES = 10;
    private static final int MAX_ARCS = 30;
    private static final int MAX_WEIGHT = 1000;

    /** Bits of a digit: the product of two digits, with what is carried, stays within a long. */
    private static final int DIGIT_BITS = 30;
    private static final long BASE = 1L << DIGIT_BITS;
    private static final long DIGIT_MASK = BASE - 1;
    private static final int LIMB_BITS = 32;
    private static final long LIMB_MASK = 0xFFFFFFFFL;

    /**
     * Digits for a sum over pairs: there are at most 90 pairs, and a pair has at most
     * 3^6 * 4^3 = 46656 least ways (nine steps that share 30 arcs), so that what is below divides a
     * number below 2^1397, and what is above is at most 90 times as much.
     */
    private static final int SUM_DIGITS = 50;
    /**
     * Digits for potentials: all of them are at most a product of what nine nodes conduct, which is
     * 60000 together: below 2^115.
     */
    private static final int FLOW_DIGITS = 6;
    /** Digits for two such products added, made longer by one digit for the division. */
    private static final int WORK_DIGITS = 12;
    /** More steps than Euclid's way needs for numbers below 2^180. */
    private static final int EUCLID_STEPS = 400;

    // Which question the kept fraction answers: a kind, and a number within the kind.
    private static final int KIND_STEP = 1000;
    private static final int ASKED_ARC = KIND_STEP;
    private static final int ASKED_GROUP = 2 * KIND_STEP;
    private static final int ASKED_HARMONIC = 3 * KIND_STEP;
    private static final int ASKED_CLOSE = 4 * KIND_STEP;
    private static final int ASKED_RESISTANCE = 5 * KIND_STEP;
    private static final int ASKED_CARRIED = 6 * KIND_STEP;

    private final Net net;
    private final boolean[] inGroup;
    private final boolean[] begins;
    private final boolean[] ends;
    private final WayTable open;
    private final WayTable around;
    private final Flow flow;
    private final Ranking ranking;
    private final Fraction kept;
    private int keptFor;

    public BetweenCounts() {
        net = new Net();
        inGroup = new boolean[MAX_NODES];
        begins = new boolean[MAX_NODES];
        ends = new boolean[MAX_NODES];
        for (int v = 0; v < MAX_NODES; v++) {
            begins[v] = true;
            ends[v] = true;
        }
        open = new WayTable(net, new boolean[MAX_NODES]);
        around = new WayTable(net, inGroup);
        flow = new Flow(net);
        ranking = new Ranking();
        kept = new Fraction();
        keptFor = NONE;
    }

    public int node() {
        int number = net.addNode();
        if (number != NONE) {
            forgetNetwork();
        }
        return number;
    }

    public int arc(int from, int to, int weight) {
        int number = net.addArc(from, to, weight);
        if (number != NONE) {
            forgetNetwork();
        }
        return number;
    }

    public int change(int arc, int weight) {
        if (!net.hasArc(arc) || !net.isWeight(weight)) {
            return NONE;
        }
        int had = net.weight[arc];
        net.weight[arc] = weight;
        forgetNetwork();
        return had;
    }

    public boolean choose(int node, int what) {
        if (!net.hasNode(node) || what < 0 || what > 2) {
            return false;
        }
        boolean[] row = what == 0 ? inGroup : what == 1 ? begins : ends;
        row[node] = !row[node];
        forgetChoice();
        return row[node];
    }

    public int far(int from, int to) {
        if (!net.hasNode(from) || !net.hasNode(to)) {
            return NONE;
        }
        open.refresh();
        return open.length[from][to];
    }

    public int ways(int from, int to) {
        if (!net.hasNode(from) || !net.hasNode(to)) {
            return NONE;
        }
        open.refresh();
        return open.count[from][to];
    }

    public long stress(int node) {
        if (!net.hasNode(node)) {
            return NONE;
        }
        open.refresh();
        long sum = 0;
        for (int s = 0; s < net.nodes; s++) {
            for (int t = 0; t < net.nodes; t++) {
                if (s != node && t != node && isPair(s, t)) {
                    sum += open.countThrough(s, node, t);
                }
            }
        }
        return sum;
    }

    public long between(int node, int part, int limb) {
        if (!net.hasNode(node) || !isPlace(part, limb)) {
            return NONE;
        }
        needBetween(node);
        return ranking.value[node].limb(part, limb);
    }

    public long arcBetween(int arc, int part, int limb) {
        if (!net.hasArc(arc) || !isPlace(part, limb)) {
            return NONE;
        }
        if (isNewQuestion(ASKED_ARC + arc)) {
            sumArc(arc);
        }
        return kept.limb(part, limb);
    }

    public long group(int part, int limb) {
        if (!isPlace(part, limb)) {
            return NONE;
        }
        if (isNewQuestion(ASKED_GROUP)) {
            sumGroup();
        }
        return kept.limb(part, limb);
    }

    public long harmonic(int node, int part, int limb) {
        if (!net.hasNode(node) || !isPlace(part, limb)) {
            return NONE;
        }
        if (isNewQuestion(ASKED_HARMONIC + node)) {
            sumHarmonic(node);
        }
        return kept.limb(part, limb);
    }

    public long close(int node, int part, int limb) {
        if (!net.hasNode(node) || !isPlace(part, limb)) {
            return NONE;
        }
        if (isNewQuestion(ASKED_CLOSE + node)) {
            sumClose(node);
        }
        return kept.limb(part, limb);
    }

    public int top(int k) {
        if (k < 0 || k >= net.nodes) {
            return NONE;
        }
        for (int v = 0; v < net.nodes; v++) {
            needBetween(v);
        }
        return ranking.nodeAt(k, net.nodes);
    }

    public long resistance(int s, int t, int part, int limb) {
        if (!net.hasNode(s) || !net.hasNode(t) || !isPlace(part, limb)) {
            return NONE;
        }
        flow.refresh();
        if (flow.ground[s] != flow.ground[t]) {
            return NONE;
        }
        if (isNewQuestion(ASKED_RESISTANCE + s * MAX_NODES + t)) {
            flow.settle(flow.ground[s]);
            flow.tellResistance(s, t, kept);
        }
        return kept.limb(part, limb);
    }

    public long carried(int node, int part, int limb) {
        if (!net.hasNode(node) || !isPlace(part, limb)) {
            return NONE;
        }
        flow.refresh();
        if (isNewQuestion(ASKED_CARRIED + node)) {
            flow.settle(flow.ground[node]);
            flow.tellCarried(node, kept);
        }
        return kept.limb(part, limb);
    }

    public int told(int what) {
        switch (what) {
            case 0:
                return net.nodes;
            case 1:
                return net.arcs;
            case 2:
                return net.arcsThere();
            case 3:
                return countPairs();
            case 4:
                return countGroup();
            case 5:
                flow.refresh();
                return flow.countPieces();
            default:
                return NONE;
        }
    }

    private void forgetNetwork() {
        open.forget();
        flow.forget();
        forgetChoice();
    }

    private void forgetChoice() {
        around.forget();
        ranking.forget();
        keptFor = NONE;
    }

    private static boolean isPlace(int part, int limb) {
        return (part == 0 || part == 1) && limb >= 0;
    }

    /** A fraction is mostly asked for limb by limb: it is worked out when the question is new. */
    private boolean isNewQuestion(int question) {
        if (question == keptFor) {
            return false;
        }
        keptFor = question;
        kept.clear();
        return true;
    }

    /** Both are nodes, and the open table is fresh. */
    private boolean isPair(int s, int t) {
        return s != t && begins[s] && ends[t] && open.length[s][t] != NONE;
    }

    private int countPairs() {
        open.refresh();
        int pairs = 0;
        for (int s = 0; s < net.nodes; s++) {
            for (int t = 0; t < net.nodes; t++) {
                if (isPair(s, t)) {
                    pairs++;
                }
            }
        }
        return pairs;
    }

    private int countGroup() {
        int members = 0;
        for (int v = 0; v < net.nodes; v++) {
            if (inGroup[v]) {
                members++;
            }
        }
        return members;
    }

    private void needBetween(int node) {
        if (ranking.known[node]) {
            return;
        }
        ranking.known[node] = true;
        open.refresh();
        Fraction sum = ranking.value[node];
        sum.clear();
        for (int s = 0; s < net.nodes; s++) {
            for (int t = 0; t < net.nodes; t++) {
                if (s != node && t != node && isPair(s, t)) {
                    sum.addRatio(open.countThrough(s, node, t), open.count[s][t]);
                }
            }
        }
    }

    private void sumArc(int arc) {
        open.refresh();
        for (int s = 0; s < net.nodes; s++) {
            for (int t = 0; t < net.nodes; t++) {
                if (isPair(s, t)) {
                    kept.addRatio(open.countBy(s, arc, t), open.count[s][t]);
                }
            }
        }
    }

    private void sumGroup() {
        open.refresh();
        around.refresh();
        for (int s = 0; s < net.nodes; s++) {
            for (int t = 0; t < net.nodes; t++) {
                if (!inGroup[s] && !inGroup[t] && isPair(s, t)) {
                    kept.addRatio(open.count[s][t] - countAround(s, t), open.count[s][t]);
                }
            }
        }
    }

    /** A least way past the group is one of the least ways only if it is no longer than they are. */
    private int countAround(int s, int t) {
        return around.length[s][t] == open.length[s][t] ? around.count[s][t] : 0;
    }

    private void sumHarmonic(int node) {
        open.refresh();
        for (int t = 0; t < net.nodes; t++) {
            if (t != node && ends[t] && open.length[node][t] != NONE) {
                kept.addRatio(1, open.length[node][t]);
            }
        }
    }

    private void sumClose(int node) {
        open.refresh();
        int reached = 0;
        int sum = 0;
        for (int t = 0; t < net.nodes; t++) {
            if (t != node && ends[t] && open.length[node][t] != NONE) {
                reached++;
                sum += open.length[node][t];
            }
        }
        kept.addRatio(reached, sum);
    }

    /** The nodes and arcs, without what was chosen of them. */
    private static final class Net {
        int nodes = 0;
        int arcs = 0;
        final int[] from = new int[MAX_ARCS];
        final int[] to = new int[MAX_ARCS];
        final int[] weight = new int[MAX_ARCS];

        boolean hasNode(int number) {
            return number >= 0 && number < nodes;
        }

        boolean hasArc(int number) {
            return number >= 0 && number < arcs;
        }

        boolean isWeight(int value) {
            return value >= 0 && value <= MAX_WEIGHT;
        }

        int addNode() {
            if (nodes >= MAX_NODES) {
                return NONE;
            }
            nodes++;
            return nodes - 1;
        }

        int addArc(int first, int last, int value) {
            if (!hasNode(first) || !hasNode(last) || first == last) {
                return NONE;
            }
            if (!isWeight(value) || arcs >= MAX_ARCS) {
                return NONE;
            }
            from[arcs] = first;
            to[arcs] = last;
            weight[arcs] = value;
            arcs++;
            return arcs - 1;
        }

        int arcsThere() {
            int there = 0;
            for (int a = 0; a < arcs; a++) {
                if (weight[a] > 0) {
                    there++;
                }
            }
            return there;
        }
    }

    /** Lengths (or NONE) and numbers of the least ways that go through no node that is shut. */
    private static final class WayTable {
        final int[][] length = new int[MAX_NODES][MAX_NODES];
        final int[][] count = new int[MAX_NODES][MAX_NODES];
        private final Net net;
        private final boolean[] shut;
        private final boolean[] done = new boolean[MAX_NODES];
        private boolean fresh = false;

        WayTable(Net net, boolean[] shut) {
            this.net = net;
            this.shut = shut;
        }

        void forget() {
            fresh = false;
        }

        void refresh() {
            if (fresh) {
                return;
            }
            fresh = true;
            for (int s = 0; s < net.nodes; s++) {
                Arrays.fill(length[s], NONE);
                Arrays.fill(count[s], 0);
                if (!shut[s]) {
                    spreadFrom(s, length[s], count[s]);
                }
            }
        }

        /**
         * Dijkstra's way: as no weight that counts is 0, all least ways to the nearest node that is
         * left have been counted when it is taken.
         */
        private void spreadFrom(int s, int[] lengths, int[] counts) {
            for (int v = 0; v < net.nodes; v++) {
                done[v] = false;
            }
            lengths[s] = 0;
            counts[s] = 1;
            for (int turn = 0; turn < net.nodes; turn++) {
                int near = nearestLeft(lengths);
                if (near == NONE) {
                    return;
                }
                done[near] = true;
                for (int a = 0; a < net.arcs; a++) {
                    if (net.from[a] == near && net.weight[a] > 0 && !shut[net.to[a]]) {
                        goBy(a, lengths, counts);
                    }
                }
            }
        }

        private int nearestLeft(int[] lengths) {
            int near = NONE;
            for (int v = 0; v < net.nodes; v++) {
                if (!done[v] && lengths[v] != NONE && (near == NONE || lengths[v] < lengths[near])) {
                    near = v;
                }
            }
            return near;
        }

        private void goBy(int a, int[] lengths, int[] counts) {
            int u = net.from[a];
            int v = net.to[a];
            int reach = lengths[u] + net.weight[a];
            if (lengths[v] == NONE || reach < lengths[v]) {
                lengths[v] = reach;
                counts[v] = counts[u];
            } else if (reach == lengths[v]) {
                counts[v] += counts[u];
            }
        }

        /** How many least ways from s to t go through v; all are nodes, and a way leads there. */
        int countThrough(int s, int v, int t) {
            int first = length[s][v];
            int second = length[v][t];
            if (first == NONE || second == NONE || first + second != length[s][t]) {
                return 0;
            }
            return count[s][v] * count[v][t];
        }

        /** How many least ways from s to t go by the arc a; a way leads there. */
        int countBy(int s, int a, int t) {
            int first = length[s][net.from[a]];
            int second = length[net.to[a]][t];
            if (net.weight[a] == 0 || first == NONE || second == NONE) {
                return 0;
            }
            if (first + net.weight[a] + second != length[s][t]) {
                return 0;
            }
            return count[s][net.from[a]] * count[net.to[a]][t];
        }
    }

    /** The BETWEEN of each node, where it is known, and the nodes' order by it. */
    private static final class Ranking {
        final Fraction[] value = new Fraction[MAX_NODES];
        final boolean[] known = new boolean[MAX_NODES];
        private final int[] ahead = new int[MAX_NODES];
        private boolean ranked = false;
        private final Big left = new Big(2 * SUM_DIGITS);
        private final Big right = new Big(2 * SUM_DIGITS);

        Ranking() {
            for (int v = 0; v < MAX_NODES; v++) {
                value[v] = new Fraction();
            }
        }

        void forget() {
            for (int v = 0; v < MAX_NODES; v++) {
                known[v] = false;
            }
            ranked = false;
        }

        /** The values of all nodes are known. */
        int nodeAt(int k, int nodes) {
            if (!ranked) {
                countAhead(nodes);
                ranked = true;
            }
            for (int v = 0; v < nodes; v++) {
                if (ahead[v] == k) {
                    return v;
                }
            }
            return NONE;
        }

        private void countAhead(int nodes) {
            Arrays.fill(ahead, 0);
            for (int u = 0; u < nodes; u++) {
                for (int v = u + 1; v < nodes; v++) {
                    if (isLess(value[u], value[v])) {
                        ahead[u]++;
                    } else {
                        ahead[v]++;
                    }
                }
            }
        }

        private boolean isLess(Fraction one, Fraction other) {
            left.setProduct(one.above, other.below);
            right.setProduct(other.above, one.below);
            return left.compareWith(right) < 0;
        }
    }

    /** A fraction that is not negative; in lowest terms, but for the time between set and reduce. */
    private static final class Fraction {
        final Big above = new Big(SUM_DIGITS);
        final Big below = new Big(SUM_DIGITS);

        Fraction() {
            below.setSmall(1);
        }

        void clear() {
            above.setSmall(0);
            below.setSmall(1);
        }

        long limb(int part, int limb) {
            return part == 0 ? above.bitsOfLimb(limb) : below.bitsOfLimb(limb);
        }

        /**
         * Adds a ratio (nothing if one of the two is not above 0). This fraction is in lowest terms,
         * and so is the ratio then: what the sum can be reduced by divides what the two numbers
         * below have in common, so that no two long numbers need to be compared.
         */
        void addRatio(int over, int under) {
            if (over <= 0 || under <= 0) {
                return;
            }
            int same = commonDivisor(over, under);
            int bottom = under / same;
            int shared = commonDivisor(bottom, below.rest(bottom));
            below.divideSmall(shared);
            above.times(bottom / shared);
            above.addTimes(below, over / same);
            int cancelled = commonDivisor(shared, above.rest(shared));
            above.divideSmall(cancelled);
            below.times(bottom / cancelled);
        }

        /** At least 1, so that it may divide. */
        private static int commonDivisor(int one, int other) {
            int x = one;
            int y = other;
            for (int step = 0; step < EUCLID_STEPS && y != 0; step++) {
                int rest = x % y;
                x = y;
                y = rest;
            }
            return Math.max(x, 1);
        }
    }

    /**
     * A whole number that is not negative: digits to the base 2^30, the lowest one first. What is
     * beyond its room is dropped; the rooms are chosen so that this never happens.
     */
    private static final class Big {
        final long[] digit;
        /** How many digits count; the highest one of them is not 0. */
        int size = 0;

        Big(int room) {
            digit = new long[Math.max(room, 1)];
        }

        /** A value from 0 to below the base. */
        void setSmall(long value) {
            size = 0;
            append(value);
        }

        void set(Big other) {
            size = Math.min(other.size, digit.length);
            System.arraycopy(other.digit, 0, digit, 0, size);
        }

        private void append(long value) {
            if (value > 0 && size < digit.length) {
                digit[size] = value;
                size++;
            }
        }

        long digitAt(int place) {
            return place >= 0 && place < size ? digit[place] : 0;
        }

        /** Puts zeros above the digits, within the room, until there are so many; trim is due after. */
        void pad(int digits) {
            int top = Math.min(digits, digit.length);
            for (int i = size; i < top; i++) {
                digit[i] = 0;
            }
            size = Math.max(size, top);
        }

        /** Keeps only the digits below a place. */
        void cutAt(int place) {
            size = Math.max(0, Math.min(place, size));
        }

        void trim() {
            while (size > 0 && digit[size - 1] == 0) {
                size--;
            }
        }

        int compareWith(Big other) {
            if (size != other.size) {
                return size < other.size ? -1 : 1;
            }
            for (int i = size - 1; i >= 0; i--) {
                if (digit[i] != other.digit[i]) {
                    return digit[i] < other.digit[i] ? -1 : 1;
                }
            }
            return 0;
        }

        /** The factor is below the base. */
        void times(long factor) {
            long carry = 0;
            for (int i = 0; i < size; i++) {
                long sum = digit[i] * factor + carry;
                digit[i] = sum & DIGIT_MASK;
                carry = sum >> DIGIT_BITS;
            }
            append(carry);
            trim();
        }

        /** Adds the other one so many times; the factor is below the base. */
        void addTimes(Big other, long factor) {
            pad(other.size);
            long carry = 0;
            for (int i = 0; i < other.size && i < size; i++) {
                long sum = digit[i] + other.digit[i] * factor + carry;
                digit[i] = sum & DIGIT_MASK;
                carry = sum >> DIGIT_BITS;
            }
            carryFrom(other.size, carry);
            trim();
        }

        /** Neither of the two is this one. */
        void setProduct(Big one, Big other) {
            size = 0;
            addProduct(one, other);
        }

        /** Neither of the two is this one. */
        void addProduct(Big one, Big other) {
            pad(one.size + other.size);
            for (int i = 0; i < one.size; i++) {
                long factor = one.digit[i];
                long carry = 0;
                for (int j = 0; j < other.size && i + j < size; j++) {
                    long sum = digit[i + j] + factor * other.digit[j] + carry;
                    digit[i + j] = sum & DIGIT_MASK;
                    carry = sum >> DIGIT_BITS;
                }
                carryFrom(i + other.size, carry);
            }
            trim();
        }

        /** Adds what is carried, of either sign, at a place and above. */
        private void carryFrom(int place, long carried) {
            long carry = carried;
            for (int i = place; i < size && carry != 0; i++) {
                long sum = digit[i] + carry;
                digit[i] = sum & DIGIT_MASK;
                carry = sum >> DIGIT_BITS;
            }
            append(carry);
        }

        /** The other one is not greater. */
        void subtract(Big other) {
            long carry = 0;
            for (int i = 0; i < other.size && i < size; i++) {
                long left = digit[i] - other.digit[i] + carry;
                digit[i] = left & DIGIT_MASK;
                carry = left >> DIGIT_BITS;
            }
            carryFrom(other.size, carry);
            trim();
        }

        /** Divides by a number above 0 and below 2^31; answers what is left over. */
        long divideSmall(long divisor) {
            if (divisor <= 0) {
                return 0;
            }
            long rest = 0;
            for (int i = size - 1; i >= 0; i--) {
                long held = (rest << DIGIT_BITS) + digit[i];
                digit[i] = held / divisor;
                rest = held % divisor;
            }
            trim();
            return rest;
        }

        int rest(int divisor) {
            if (divisor <= 0) {
                return 0;
            }
            long rest = 0;
            for (int i = size - 1; i >= 0; i--) {
                rest = ((rest << DIGIT_BITS) + digit[i]) % divisor;
            }
            return (int) rest;
        }

        /**
         * The bits from 32 * limb on. They start at an even bit of a digit, at most at bit 28, so
         * that this digit and the next one hold all of them.
         */
        long bitsOfLimb(int limb) {
            if (limb < 0 || limb >= size) {
                return 0;
            }
            int place = limb * LIMB_BITS / DIGIT_BITS;
            int shift = limb * LIMB_BITS % DIGIT_BITS;
            long low = digitAt(place) >> shift;
            long high = digitAt(place + 1) << (DIGIT_BITS - shift);
            return (low | high) & LIMB_MASK;
        }
    }

    /** Long division (Knuth, volume 2, 4.3.1, algorithm D) and what needs it. */
    private static final class Divider {
        final Big quotient = new Big(WORK_DIGITS);
        private final Big scaled = new Big(WORK_DIGITS);
        private final Big left = new Big(WORK_DIGITS);
        private final Big right = new Big(WORK_DIGITS);

        /** The rest stays in the number; by 0 the quotient is 0. */
        void divide(Big number, Big by) {
            quotient.setSmall(0);
            int n = by.size;
            if (n == 0 || number.compareWith(by) < 0) {
                return;
            }
            if (n == 1) {
                quotient.set(number);
                number.setSmall(quotient.divideSmall(by.digit[0]));
                return;
            }
            // A guess of a digit is only good when the divisor's highest digit is half the base.
            long scale = BASE / (by.digit[n - 1] + 1);
            scaled.set(by);
            scaled.times(scale);
            number.times(scale);
            quotient.pad(number.size - n + 1);
            for (int at = quotient.size - 1; at >= 0; at--) {
                quotient.digit[at] = takeDigit(number, at);
            }
            quotient.trim();
            number.trim();
            number.divideSmall(scale);
        }

        /** Takes the scaled divisor away at a place as often as it goes: how often. */
        private long takeDigit(Big number, int at) {
            long above = number.digitAt(at + scaled.size);
            long digit = guess(number, at);
            if (takeAway(number, at, digit) > above) {
                digit--;
                putBack(number, at);
            }
            number.cutAt(at + scaled.size);
            return digit;
        }

        /** From the highest digits: the right one or, seldom, one more. */
        private long guess(Big number, int at) {
            int n = scaled.size;
            long first = scaled.digitAt(n - 1);
            long second = scaled.digitAt(n - 2);
            if (first == 0) {
                return 0;
            }
            long held = (number.digitAt(at + n) << DIGIT_BITS) + number.digitAt(at + n - 1);
            long next = number.digitAt(at + n - 2);
            long digit = held / first;
            long rest = held % first;
            for (int turn = 0; turn < 2 && rest < BASE; turn++) {
                if (digit >= BASE || digit * second > (rest << DIGIT_BITS) + next) {
                    digit--;
                    rest += first;
                }
            }
            return digit;
        }

        /** What must still be taken from the digit above. */
        private long takeAway(Big number, int at, long times) {
            long carry = 0;
            for (int i = 0; i < scaled.size && at + i < number.size; i++) {
                long left = number.digit[at + i] - scaled.digit[i] * times - carry;
                number.digit[at + i] = left & DIGIT_MASK;
                carry = -(left >> DIGIT_BITS);
            }
            return carry;
        }

        private void putBack(Big number, int at) {
            long carry = 0;
            for (int i = 0; i < scaled.size && at + i < number.size; i++) {
                long sum = number.digit[at + i] + scaled.digit[i] + carry;
                number.digit[at + i] = sum & DIGIT_MASK;
                carry = sum >> DIGIT_BITS;
            }
        }

        void reduce(Fraction fraction) {
            Big common = left;
            Big rest = right;
            common.set(fraction.above);
            rest.set(fraction.below);
            for (int step = 0; step < EUCLID_STEPS && rest.size > 0; step++) {
                divide(common, rest);
                Big spare = common;
                common = rest;
                rest = spare;
            }
            divide(fraction.above, common);
            fraction.above.set(quotient);
            divide(fraction.below, common);
            fraction.below.set(quotient);
        }
    }

    /** Pieces, and the potentials in one of them against its least node, the ground. */
    private static final class Flow {
        /** The least node of each node's piece. */
        final int[] ground = new int[MAX_NODES];
        private final Net net;
        private final int[][] conducts = new int[MAX_NODES][MAX_NODES];
        /** Entries (i, j) and (j, i) are one object, as they are always alike. */
        private final Big[] entry = new Big[MAX_NODES * MAX_NODES];
        private final Big whole = new Big(FLOW_DIGITS);
        private final Big pivot = new Big(FLOW_DIGITS);
        private final Big one = new Big(WORK_DIGITS);
        private final Big other = new Big(WORK_DIGITS);
        private final Divider divider = new Divider();
        private boolean fresh = false;
        private int settledFor = NONE;

        Flow(Net net) {
            this.net = net;
            for (int i = 0; i < MAX_NODES; i++) {
                for (int j = i; j < MAX_NODES; j++) {
                    Big shared = new Big(FLOW_DIGITS);
                    entry[i * MAX_NODES + j] = shared;
                    entry[j * MAX_NODES + i] = shared;
                }
            }
        }

        void forget() {
            fresh = false;
            settledFor = NONE;
        }

        void refresh() {
            if (fresh) {
                return;
            }
            fresh = true;
            for (int v = 0; v < net.nodes; v++) {
                ground[v] = v;
                Arrays.fill(conducts[v], 0);
            }
            for (int a = 0; a < net.arcs; a++) {
                conducts[net.from[a]][net.to[a]] += net.weight[a];
                conducts[net.to[a]][net.from[a]] += net.weight[a];
            }
            // The least number of a piece goes on by at least one node in each round.
            for (int round = 0; round < net.nodes; round++) {
                lowerGrounds();
            }
        }

        private void lowerGrounds() {
            for (int a = 0; a < net.arcs; a++) {
                if (net.weight[a] > 0) {
                    int least = Math.min(ground[net.from[a]], ground[net.to[a]]);
                    ground[net.from[a]] = least;
                    ground[net.to[a]] = least;
                }
            }
        }

        int countPieces() {
            int pieces = 0;
            for (int v = 0; v < net.nodes; v++) {
                if (ground[v] == v) {
                    pieces++;
                }
            }
            return pieces;
        }

        private Big entryOf(int i, int j) {
            return entry[i * MAX_NODES + j];
        }

        private boolean isInner(int v, int root) {
            return v != root && ground[v] == root;
        }

        /**
         * Inverts what the piece conducts, without the ground's row and column. After it, an entry
         * (i, j) by the whole is the potential at i when a unit goes in at j and out at the ground.
         * No fraction comes up: each step's division by the step before's whole leaves no rest.
         */
        void settle(int root) {
            if (settledFor == root) {
                return;
            }
            settledFor = root;
            whole.setSmall(1);
            for (int i = 0; i < net.nodes; i++) {
                for (int j = i; j < net.nodes; j++) {
                    boolean inside = isInner(i, root) && isInner(j, root);
                    entryOf(i, j).setSmall(inside ? startOf(i, j) : 0);
                }
            }
            for (int k = 0; k < net.nodes; k++) {
                if (isInner(k, root)) {
                    sweep(k, root);
                }
            }
        }

        /** What two nodes conduct, or one in all. Signs are left out: the steps keep track of them. */
        private int startOf(int i, int j) {
            if (i != j) {
                return conducts[i][j];
            }
            int sum = 0;
            for (int v = 0; v < net.nodes; v++) {
                sum += conducts[i][v];
            }
            return sum;
        }

        private void sweep(int k, int root) {
            pivot.set(entryOf(k, k));
            for (int i = 0; i < net.nodes; i++) {
                for (int j = i; j < net.nodes; j++) {
                    if (i != k && j != k && isInner(i, root) && isInner(j, root)) {
                        sweepEntry(i, j, k);
                    }
                }
            }
            entryOf(k, k).set(whole);
            whole.set(pivot);
        }

        /**
         * Off the diagonal what is conducted is negative, and in what has been swept all is positive;
         * so the two products differ in sign only on the part of the diagonal that is still to come.
         */
        private void sweepEntry(int i, int j, int k) {
            Big here = entryOf(i, j);
            one.setProduct(pivot, here);
            if (i == j && i > k) {
                other.setProduct(entryOf(i, k), entryOf(k, j));
                one.subtract(other);
            } else {
                one.addProduct(entryOf(i, k), entryOf(k, j));
            }
            divider.divide(one, whole);
            here.set(divider.quotient);
        }

        /** Both are of the piece that is settled. */
        void tellResistance(int s, int t, Fraction answer) {
            one.set(entryOf(s, t));
            one.times(2);
            answer.above.set(entryOf(s, s));
            answer.above.addTimes(entryOf(t, t), 1);
            answer.above.subtract(one);
            answer.below.set(whole);
            divider.reduce(answer);
        }

        /** The node is of the piece that is settled. */
        void tellCarried(int node, Fraction answer) {
            answer.above.setSmall(0);
            for (int s = 0; s < net.nodes; s++) {
                for (int t = s + 1; t < net.nodes; t++) {
                    if (isOther(s, node) && isOther(t, node)) {
                        addFlows(node, s, t, answer.above);
                    }
                }
            }
            answer.below.set(whole);
            answer.below.times(2);
            divider.reduce(answer);
        }

        private boolean isOther(int v, int node) {
            return v != node && ground[v] == ground[node];
        }

        private void addFlows(int node, int s, int t, Big sum) {
            for (int v = 0; v < net.nodes; v++) {
                if (conducts[node][v] > 0) {
                    sum.addTimes(dropOf(node, v, s, t), conducts[node][v]);
                }
            }
        }

        /** How far the potentials at u and v differ, times the whole, by a unit from s to t. */
        private Big dropOf(int u, int v, int s, int t) {
            one.set(entryOf(u, s));
            one.addTimes(entryOf(v, t), 1);
            other.set(entryOf(u, t));
            other.addTimes(entryOf(v, s), 1);
            if (one.compareWith(other) < 0) {
                other.subtract(one);
                return other;
            }
            one.subtract(other);
            return one;
        }
    }
}
