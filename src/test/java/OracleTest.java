import java.util.ArrayList;
import java.util.List;
import java.util.function.Consumer;

/**
 * Runs of up to 512 calls, wrong arguments among them, every answer against the Oracle; then
 * networks at the document's limits.
 */
public final class OracleTest {
    private static final Due DUE = new Due("OracleTest");
    private static final int LAST_CALL = 512;

    /** Networks, found by search, whose fractions of betweenness are as long as could be found. */
    private static final int[][] LONGEST = {
        {9, 3, 4, 1, 2, 1, 2, 4, 2, 3, 4, 1, 5, 6, 1, 9, 0, 1, 5, 8, 3, 7, 8, 1, 4, 5, 1, 1, 6, 5,
            5, 6, 1, 2, 3, 1, 7, 0, 3, 4, 5, 1, 1, 3, 2, 6, 7, 1, 9, 0, 1, 6, 7, 1, 0, 1, 1, 3, 7, 4,
            2, 3, 1, 3, 4, 1, 4, 5, 1, 5, 6, 1, 2, 3, 1, 8, 2, 4, 8, 9, 1, 2, 5, 3, 0, 2, 2, 7, 9, 2},
        {0, 1, 1, 1, 2, 1, 3, 5, 2, 3, 4, 1, 2, 3, 1, 5, 6, 1, 6, 7, 1, 8, 2, 4, 2, 3, 1, 7, 9, 2,
            4, 5, 1, 1, 2, 1, 6, 7, 1, 4, 5, 1, 5, 6, 1, 5, 1, 6, 4, 7, 3, 8, 9, 1, 6, 0, 4, 2, 3, 1,
            0, 1, 1, 3, 4, 1, 9, 6, 7, 5, 6, 1, 7, 8, 1, 0, 3, 3, 1, 5, 4, 9, 0, 1, 6, 7, 1, 2, 8, 6},
        {0, 1, 1, 1, 2, 1, 2, 9, 7, 3, 4, 1, 4, 5, 1, 5, 6, 1, 6, 7, 1, 0, 5, 5, 9, 4, 5, 8, 0, 2,
            4, 7, 3, 6, 0, 4, 7, 3, 6, 4, 5, 1, 5, 6, 1, 6, 7, 1, 7, 8, 1, 8, 9, 1, 6, 8, 2, 2, 3, 1,
            1, 4, 3, 3, 4, 1, 9, 6, 7, 5, 6, 1, 6, 7, 1, 3, 5, 2, 7, 8, 1, 5, 2, 7, 9, 1, 2, 2, 3, 1}
    };
    private static long seed = 20261116L;

    /** The same numbers in every run. */
    private static int pick(int bound) {
        seed = seed * 6364136223846793005L + 1442695040888963407L;
        return (int) ((seed >>> 33) % bound);
    }

    private static long limbOf(Oracle.Ratio ratio, int part, int limb) {
        return ratio == null ? Oracle.NONE : ratio.limb(part, limb);
    }

    private BetweenCounts x = new BetweenCounts();
    private Oracle o = new Oracle();
    private final List<Consumer<BetweenCounts>> changes = new ArrayList<>();
    private final String name;
    private int calls = 0;
    private int callsOfObject = 0;

    private OracleTest(String name) {
        this.name = name;
    }

    private void due(String call, long got, long want) {
        calls++;
        DUE.is(name + ", call " + calls + ", " + call, got, want);
        callsOfObject++;
        if (callsOfObject == LAST_CALL) {
            renew();
        }
    }

    /** Nothing is promised after an object's 512th call: another one goes on, after the same changes. */
    private void renew() {
        x = new BetweenCounts();
        for (Consumer<BetweenCounts> change : changes) {
            change.accept(x);
        }
        callsOfObject = changes.size();
    }

    private void node() {
        changes.add(y -> y.node());
        due("node()", x.node(), o.node());
    }

    private void arc(int from, int to, int weight) {
        changes.add(y -> y.arc(from, to, weight));
        due("arc(" + from + ", " + to + ", " + weight + ")", x.arc(from, to, weight), o.arc(from, to, weight));
    }

    private void change(int arc, int weight) {
        changes.add(y -> y.change(arc, weight));
        due("change(" + arc + ", " + weight + ")", x.change(arc, weight), o.change(arc, weight));
    }

    private void choose(int node, int what) {
        changes.add(y -> y.choose(node, what));
        due("choose(" + node + ", " + what + ")", x.choose(node, what) ? 1 : 0, o.choose(node, what) ? 1 : 0);
    }

    private void numbers(int u, int v) {
        due("far(" + u + ", " + v + ")", x.far(u, v), o.far(u, v));
        due("ways(" + u + ", " + v + ")", x.ways(u, v), o.ways(u, v));
        due("stress(" + u + ")", x.stress(u), o.stress(u));
        due("top(" + u + ")", x.top(u), o.top(u));
        due("told(" + u + ")", x.told(u), o.told(u));
    }

    private void fraction(int kind, int u, int v, int part, int limb) {
        String at = "(" + u + ", " + v + "; " + part + ", " + limb + ")";
        switch (kind) {
            case 0:
                due("between" + at, x.between(u, part, limb), limbOf(o.between(u), part, limb));
                break;
            case 1:
                due("arcBetween" + at, x.arcBetween(u, part, limb), limbOf(o.arcBetween(u), part, limb));
                break;
            case 2:
                due("group" + at, x.group(part, limb), limbOf(o.group(), part, limb));
                break;
            case 3:
                due("harmonic" + at, x.harmonic(u, part, limb), limbOf(o.harmonic(u), part, limb));
                break;
            case 4:
                due("close" + at, x.close(u, part, limb), limbOf(o.close(u), part, limb));
                break;
            case 5:
                due("resistance" + at, x.resistance(u, v, part, limb), limbOf(o.resistance(u, v), part, limb));
                break;
            default:
                due("carried" + at, x.carried(u, part, limb), limbOf(o.carried(u), part, limb));
        }
    }

    /** Mostly a node; now and then a number beside them. */
    private int someNode() {
        return pick(12) == 0 ? pick(14) - 2 : pick(Math.max(1, o.nodes));
    }

    private int someWeight(int style) {
        switch (style % 5) {
            case 0:
                return pick(12) == 0 ? 0 : 1;
            case 1:
                return pick(4);
            case 2:
                return pick(8) == 0 ? pick(3) * 1001 - 1001 : pick(1001);
            case 3:
                return 1 << pick(10);
            default:
                return 990 + pick(11);
        }
    }

    private void change1(int style) {
        int turn = pick(10);
        if (turn < 2) {
            node();
        } else if (turn < 6) {
            arc(someNode(), someNode(), someWeight(style));
        } else if (turn < 8) {
            change(pick(o.arcs.size() + 2) - 1, someWeight(style));
        } else {
            choose(someNode(), pick(5) - 1);
        }
    }

    private void ask1() {
        int kind = pick(9);
        if (kind < 7) {
            int u = kind == 1 ? pick(o.arcs.size() + 2) - 1 : someNode();
            int limb = pick(10) == 0 ? new int[] {-1, Integer.MIN_VALUE, Integer.MAX_VALUE, 9}[pick(4)] : pick(4);
            fraction(kind, u, someNode(), pick(12) == 0 ? pick(4) - 1 : pick(2), limb);
        } else {
            numbers(someNode(), someNode());
        }
    }

    /** Everything that can be asked, with so many limbs. */
    private void askAll(int limbs, boolean current) {
        for (int u = 0; u < 10; u++) {
            for (int v = 0; v < 10; v++) {
                numbers(u, v);
            }
        }
        for (int part = 0; part < 2; part++) {
            for (int limb = 0; limb < limbs; limb++) {
                for (int u = 0; u < 30; u++) {
                    for (int kind = 0; kind < 5; kind++) {
                        fraction(kind, u, 0, part, limb);
                    }
                }
            }
        }
        for (int u = 0; current && u < o.nodes; u++) {
            Oracle.Ratio carried = o.carried(u);
            for (int place = 0; place < 12; place++) {
                due("carried(" + u + ")", x.carried(u, place % 2, place / 2), limbOf(carried, place % 2, place / 2));
            }
            for (int v = 0; v < o.nodes; v++) {
                Oracle.Ratio resistance = o.resistance(u, v);
                for (int place = 0; place < 12; place++) {
                    due("resistance(" + u + ", " + v + ")", x.resistance(u, v, place % 2, place / 2),
                            limbOf(resistance, place % 2, place / 2));
                }
            }
        }
    }

    private void nodes(int many) {
        for (int v = 0; v < many; v++) {
            node();
        }
    }

    private static void mixedRun(int number) {
        OracleTest run = new OracleTest("mixed run " + number);
        int style = pick(5);
        run.nodes(pick(9));
        while (run.calls < 500) {
            int changes = 1 + pick(6);
            for (int i = 0; i < changes; i++) {
                run.change1(style);
            }
            int asked = 1 + pick(8);
            for (int i = 0; i < asked; i++) {
                run.ask1();
            }
        }
    }

    private static void fullRun(int number) {
        OracleTest run = new OracleTest("full run " + number);
        int nodes = 2 + pick(9);
        run.nodes(nodes);
        int arcs = pick(31);
        for (int a = 0; a < arcs; a++) {
            run.arc(pick(nodes), pick(nodes), run.someWeight(number));
        }
        for (int v = 0; v < nodes; v++) {
            if (pick(4) == 0) {
                run.choose(v, 0);
            }
            if (pick(6) == 0) {
                run.choose(v, 1 + pick(2));
            }
        }
        run.askAll(3, true);
    }

    /** Nine steps that share 30 arcs: the most least ways that two nodes can have. */
    private static void mostWays() {
        OracleTest run = new OracleTest("most ways");
        run.nodes(10);
        for (int a = 0; a < 30; a++) {
            run.arc(a % 9, a % 9 + 1, 1000);
        }
        DUE.is("most ways: far(0, 9)", run.x.far(0, 9), 9000);
        DUE.is("most ways: ways(0, 9)", run.x.ways(0, 9), 46656);
        run.askAll(3, true);
    }

    private static boolean isPrime(int number) {
        for (int d = 2; d * d <= number; d++) {
            if (number % d == 0) {
                return false;
            }
        }
        return true;
    }

    /** Fars that are primes, each as great as it can be: a harmonic fraction of more than three limbs. */
    private static void longHarmonic() {
        OracleTest run = new OracleTest("long harmonic");
        run.nodes(10);
        int reach = 0;
        for (int t = 1; t < 10; t++) {
            int weight = 1000;
            while (!isPrime(reach + weight)) {
                weight--;
            }
            run.arc(t - 1, t, weight);
            reach += weight;
        }
        DUE.holds("long harmonic: more than three limbs", run.x.harmonic(0, 1, 3) > 0);
        run.askAll(6, true);
    }

    /** Many pairs whose numbers of ways differ: long fractions of betweenness. */
    private static void longBetween(int number) {
        OracleTest run = new OracleTest("long between " + number);
        run.nodes(10);
        int arcs = 0;
        for (int v = 0; v < 9; v++) {
            run.arc(v, v + 1, 1);
            arcs++;
        }
        while (arcs < 30) {
            int v = pick(9);
            int step = 1 + pick(3);
            if (v + step < 10) {
                run.arc(v, v + step, step);
                arcs++;
            }
        }
        if (number % 2 == 1) {
            run.choose(pick(10), 0);
            run.choose(pick(10), 0);
        }
        run.askAll(6, false);
    }

    private static void longestBetween(int number) {
        OracleTest run = new OracleTest("longest between " + number);
        run.nodes(10);
        int[] arcs = LONGEST[number];
        for (int a = 0; a < arcs.length; a += 3) {
            run.arc(arcs[a], arcs[a + 1], arcs[a + 2]);
        }
        run.choose(4, 0);
        int limbs = 0;
        for (int v = 0; v < 30; v++) {
            limbs = Math.max(limbs, run.o.arcBetween(v).below.bitLength() / 32 + 1);
        }
        DUE.holds("longest between: five limbs or more", limbs >= 5);
        run.askAll(limbs + 1, false);
    }

    /** As much as nodes can conduct, in even and in uneven shares. */
    private static void strongCurrent(int number) {
        OracleTest run = new OracleTest("strong current " + number);
        run.nodes(10);
        int[] order = new int[45];
        int many = 0;
        for (int u = 0; u < 10; u++) {
            for (int v = u + 1; v < 10; v++) {
                order[many++] = u * 10 + v;
            }
        }
        for (int a = 0; a < 30; a++) {
            int at = a + pick(45 - a);
            int pair = order[at];
            order[at] = order[a];
            order[a] = pair;
            int weight = number == 0 ? 1000 : number == 1 ? 512 : number == 2 ? 1000 - a : 1 + pick(1000);
            run.arc(pair / 10, pair % 10, weight);
        }
        run.askAll(2, true);
    }

    public static void main(String[] args) {
        for (int i = 0; i < 60; i++) {
            mixedRun(i);
        }
        for (int i = 0; i < 30; i++) {
            fullRun(i);
        }
        mostWays();
        longHarmonic();
        for (int i = 0; i < 12; i++) {
            longBetween(i);
        }
        for (int i = 0; i < LONGEST.length; i++) {
            longestBetween(i);
        }
        for (int i = 0; i < 6; i++) {
            strongCurrent(i);
        }
        DUE.end();
    }
}
