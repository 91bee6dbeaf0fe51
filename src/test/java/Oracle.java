import java.math.BigInteger;
import java.util.ArrayList;
import java.util.List;

/**
 * The document's words, done slowly by other means than the class: ways are walked one by one, sums
 * are made of BigInteger fractions, and potentials come from solving the equations for each pair.
 */
final class Oracle {
    static final int NONE = -1;

    /** A fraction in lowest terms. */
    static final class Ratio {
        static final Ratio ZERO = of(0, 1);
        final BigInteger above;
        final BigInteger below;

        Ratio(BigInteger above, BigInteger below) {
            BigInteger common = above.gcd(below);
            if (below.signum() < 0) {
                common = common.negate();
            }
            this.above = above.divide(common);
            this.below = below.divide(common);
        }

        static Ratio of(long above, long below) {
            return new Ratio(BigInteger.valueOf(above), BigInteger.valueOf(below));
        }

        Ratio plus(Ratio x) {
            return new Ratio(above.multiply(x.below).add(x.above.multiply(below)), below.multiply(x.below));
        }

        Ratio minus(Ratio x) {
            return plus(new Ratio(x.above.negate(), x.below));
        }

        Ratio times(Ratio x) {
            return new Ratio(above.multiply(x.above), below.multiply(x.below));
        }

        Ratio by(Ratio x) {
            return new Ratio(above.multiply(x.below), below.multiply(x.above));
        }

        Ratio withoutSign() {
            return new Ratio(above.abs(), below);
        }

        int compare(Ratio x) {
            return above.multiply(x.below).compareTo(x.above.multiply(below));
        }

        long limb(int part, int limb) {
            if (part < 0 || part > 1 || limb < 0) {
                return NONE;
            }
            BigInteger number = part == 0 ? above : below;
            if (limb > number.bitLength() / 32) {
                return 0;
            }
            return number.shiftRight(32 * limb).longValue() & 0xFFFFFFFFL;
        }
    }

    final List<int[]> arcs = new ArrayList<>();
    final boolean[] inGroup = new boolean[10];
    final boolean[] begins = new boolean[10];
    final boolean[] ends = new boolean[10];
    int nodes = 0;

    private boolean walked = false;
    private final int[][] far = new int[10][10];
    private final int[][] ways = new int[10][10];
    private final int[][] around = new int[10][10];
    private final int[][][] through = new int[10][10][10];
    private final int[][][] by = new int[10][10][30];
    private final int[] path = new int[10];
    private final Ratio[] between = new Ratio[10];
    private final Ratio[] arcBetween = new Ratio[30];
    private final Ratio[][] solved = new Ratio[100][];
    private boolean counting;

    Oracle() {
        java.util.Arrays.fill(begins, true);
        java.util.Arrays.fill(ends, true);
    }

    private void forget() {
        walked = false;
        java.util.Arrays.fill(between, null);
        java.util.Arrays.fill(arcBetween, null);
        java.util.Arrays.fill(solved, null);
    }

    int node() {
        forget();
        return nodes < 10 ? nodes++ : NONE;
    }

    boolean isNode(int v) {
        return 0 <= v && v < nodes;
    }

    boolean isArc(int a) {
        return 0 <= a && a < arcs.size();
    }

    int arc(int from, int to, int weight) {
        if (!isNode(from) || !isNode(to) || from == to || weight < 0 || weight > 1000 || arcs.size() == 30) {
            return NONE;
        }
        forget();
        arcs.add(new int[] {from, to, weight});
        return arcs.size() - 1;
    }

    int change(int arc, int weight) {
        if (!isArc(arc) || weight < 0 || weight > 1000) {
            return NONE;
        }
        forget();
        int had = arcs.get(arc)[2];
        arcs.get(arc)[2] = weight;
        return had;
    }

    boolean choose(int node, int what) {
        if (!isNode(node) || what < 0 || what > 2) {
            return false;
        }
        forget();
        boolean[] row = new boolean[][] {inGroup, begins, ends}[what];
        return row[node] = !row[node];
    }

    // ---- ways, walked one by one

    private void walkAll() {
        if (walked) {
            return;
        }
        walked = true;
        for (int s = 0; s < nodes; s++) {
            java.util.Arrays.fill(far[s], NONE);
            java.util.Arrays.fill(ways[s], 0);
            java.util.Arrays.fill(around[s], 0);
            for (int t = 0; t < 10; t++) {
                java.util.Arrays.fill(through[s][t], 0);
                java.util.Arrays.fill(by[s][t], 0);
            }
            counting = false;
            walk(s, s, 0, 0, 0, 1 << s);
            counting = true;
            walk(s, s, 0, 0, 0, 1 << s);
        }
    }

    private void walk(int s, int t, int length, int steps, long arcSet, int nodeSet) {
        if (!counting) {
            far[s][t] = far[s][t] == NONE ? length : Math.min(far[s][t], length);
        } else if (length == far[s][t]) {
            count(s, t, arcSet, nodeSet);
        }
        for (int a = 0; a < arcs.size(); a++) {
            int[] arc = arcs.get(a);
            if (arc[0] == t && arc[2] > 0 && (nodeSet >> arc[1] & 1) == 0) {
                walk(s, arc[1], length + arc[2], steps + 1, arcSet | 1L << a, nodeSet | 1 << arc[1]);
            }
        }
    }

    private void count(int s, int t, long arcSet, int nodeSet) {
        ways[s][t]++;
        boolean free = true;
        for (int v = 0; v < nodes; v++) {
            if ((nodeSet >> v & 1) == 1 && v != s && v != t) {
                through[s][t][v]++;
            }
            free &= (nodeSet >> v & 1) == 0 || !inGroup[v];
        }
        if (free) {
            around[s][t]++;
        }
        for (int a = 0; a < arcs.size(); a++) {
            by[s][t][a] += (int) (arcSet >> a & 1);
        }
    }

    int far(int from, int to) {
        walkAll();
        return isNode(from) && isNode(to) ? far[from][to] : NONE;
    }

    int ways(int from, int to) {
        walkAll();
        return isNode(from) && isNode(to) ? ways[from][to] : NONE;
    }

    private List<int[]> pairs() {
        walkAll();
        List<int[]> all = new ArrayList<>();
        for (int s = 0; s < nodes; s++) {
            for (int t = 0; t < nodes; t++) {
                if (begins[s] && ends[t] && s != t && far[s][t] != NONE) {
                    all.add(new int[] {s, t});
                }
            }
        }
        return all;
    }

    long stress(int node) {
        if (!isNode(node)) {
            return NONE;
        }
        long sum = 0;
        for (int[] p : pairs()) {
            sum += through[p[0]][p[1]][node];
        }
        return sum;
    }

    Ratio between(int node) {
        if (!isNode(node)) {
            return null;
        }
        walkAll();
        if (between[node] == null) {
            between[node] = addBetween(node);
        }
        return between[node];
    }

    private Ratio addBetween(int node) {
        Ratio sum = Ratio.ZERO;
        for (int[] p : pairs()) {
            if (p[0] != node && p[1] != node) {
                sum = sum.plus(Ratio.of(through[p[0]][p[1]][node], ways[p[0]][p[1]]));
            }
        }
        return sum;
    }

    Ratio arcBetween(int arc) {
        if (!isArc(arc)) {
            return null;
        }
        walkAll();
        if (arcBetween[arc] == null) {
            arcBetween[arc] = addArcBetween(arc);
        }
        return arcBetween[arc];
    }

    private Ratio addArcBetween(int arc) {
        Ratio sum = Ratio.ZERO;
        for (int[] p : pairs()) {
            sum = sum.plus(Ratio.of(by[p[0]][p[1]][arc], ways[p[0]][p[1]]));
        }
        return sum;
    }

    Ratio group() {
        Ratio sum = Ratio.ZERO;
        for (int[] p : pairs()) {
            if (!inGroup[p[0]] && !inGroup[p[1]]) {
                int all = ways[p[0]][p[1]];
                sum = sum.plus(Ratio.of(all - around[p[0]][p[1]], all));
            }
        }
        return sum;
    }

    Ratio harmonic(int node) {
        if (!isNode(node)) {
            return null;
        }
        walkAll();
        Ratio sum = Ratio.ZERO;
        for (int t = 0; t < nodes; t++) {
            if (t != node && ends[t] && far[node][t] != NONE) {
                sum = sum.plus(Ratio.of(1, far[node][t]));
            }
        }
        return sum;
    }

    Ratio close(int node) {
        if (!isNode(node)) {
            return null;
        }
        walkAll();
        int reached = 0;
        int sum = 0;
        for (int t = 0; t < nodes; t++) {
            if (t != node && ends[t] && far[node][t] != NONE) {
                reached++;
                sum += far[node][t];
            }
        }
        return reached == 0 ? Ratio.ZERO : Ratio.of(reached, sum);
    }

    int top(int k) {
        List<Integer> order = new ArrayList<>();
        Ratio[] value = new Ratio[nodes];
        for (int v = 0; v < nodes; v++) {
            value[v] = between(v);
            order.add(v);
        }
        order.sort((u, v) -> value[v].compare(value[u]) != 0 ? value[v].compare(value[u]) : u - v);
        return 0 <= k && k < nodes ? order.get(k) : NONE;
    }

    // ---- current

    private int pieceOf(int v) {
        int set = 1 << v;
        for (int round = 0; round < nodes; round++) {
            for (int[] arc : arcs) {
                if (arc[2] > 0 && (set >> arc[0] & 1) + (set >> arc[1] & 1) == 1) {
                    set |= 1 << arc[0] | 1 << arc[1];
                }
            }
        }
        return set;
    }

    private Ratio[] potentials(int s, int t) {
        if (solved[s * 10 + t] == null) {
            solved[s * 10 + t] = solve(s, t);
        }
        return solved[s * 10 + t];
    }

    /** The potentials of the piece's nodes, that of t being 0: Gauss' way over the node equations. */
    private Ratio[] solve(int s, int t) {
        int piece = pieceOf(s);
        Ratio[][] row = new Ratio[nodes][nodes + 1];
        for (int i = 0; i < nodes; i++) {
            java.util.Arrays.fill(row[i], Ratio.ZERO);
        }
        for (int[] arc : arcs) {
            for (int side = 0; side < 2; side++) {
                int i = arc[side];
                int j = arc[1 - side];
                row[i][i] = row[i][i].plus(Ratio.of(arc[2], 1));
                row[i][j] = row[i][j].minus(Ratio.of(arc[2], 1));
            }
        }
        row[s][nodes] = Ratio.of(1, 1);
        for (int i = 0; i < nodes; i++) {
            if (i == t || (piece >> i & 1) == 0) {
                java.util.Arrays.fill(row[i], Ratio.ZERO);
                row[i][i] = Ratio.of(1, 1);
            }
        }
        for (int k = 0; k < nodes; k++) {
            int pick = k;
            while (row[pick][k].above.signum() == 0) {
                pick++;
            }
            Ratio[] swap = row[pick];
            row[pick] = row[k];
            row[k] = swap;
            for (int i = 0; i < nodes; i++) {
                if (i != k && row[i][k].above.signum() != 0) {
                    Ratio factor = row[i][k].by(row[k][k]);
                    for (int j = k; j <= nodes; j++) {
                        row[i][j] = row[i][j].minus(factor.times(row[k][j]));
                    }
                }
            }
        }
        Ratio[] answer = new Ratio[nodes];
        for (int i = 0; i < nodes; i++) {
            answer[i] = row[i][nodes].by(row[i][i]);
        }
        return answer;
    }

    Ratio resistance(int s, int t) {
        if (!isNode(s) || !isNode(t) || (pieceOf(s) >> t & 1) == 0) {
            return null;
        }
        if (s == t) {
            return Ratio.ZERO;
        }
        Ratio[] potential = potentials(s, t);
        return potential[s].minus(potential[t]);
    }

    Ratio carried(int node) {
        if (!isNode(node)) {
            return null;
        }
        int piece = pieceOf(node);
        Ratio sum = Ratio.ZERO;
        for (int s = 0; s < nodes; s++) {
            for (int t = s + 1; t < nodes; t++) {
                if (s != node && t != node && (piece >> s & 1) == 1 && (piece >> t & 1) == 1) {
                    sum = sum.plus(flowAt(node, potentials(s, t)));
                }
            }
        }
        return sum;
    }

    private Ratio flowAt(int node, Ratio[] potential) {
        Ratio sum = Ratio.ZERO;
        for (int[] arc : arcs) {
            if (arc[2] > 0 && (arc[0] == node || arc[1] == node)) {
                Ratio drop = potential[arc[0]].minus(potential[arc[1]]).withoutSign();
                sum = sum.plus(drop.times(Ratio.of(arc[2], 2)));
            }
        }
        return sum;
    }

    int told(int what) {
        int sum = 0;
        switch (what) {
            case 0:
                return nodes;
            case 1:
                return arcs.size();
            case 2:
                for (int[] arc : arcs) {
                    sum += arc[2] > 0 ? 1 : 0;
                }
                return sum;
            case 3:
                return pairs().size();
            case 4:
                for (boolean in : inGroup) {
                    sum += in ? 1 : 0;
                }
                return sum;
            case 5:
                java.util.Set<Integer> pieces = new java.util.HashSet<>();
                for (int v = 0; v < nodes; v++) {
                    pieces.add(pieceOf(v));
                }
                return pieces.size();
            default:
                return NONE;
        }
    }
}
