/**
 * LANGUAGE.md, rule 7: "No call may ever throw or fail to end, for any arguments in any state". Every
 * call with all arguments of a row of edges, each with each, against the Oracle.
 */
public final class AnyArgumentsTest {
    private static final Due DUE = new Due("Any arguments");
    private static final int CALLS = 400;
    private static final int[] EDGES = {
        Due.LOW, Due.LOW + 1, -1001, -2, -1, 0, 1, 2, 4, 5, 9, 10, 29, 30, 31, 1000, 1001, 1 << 27, Due.HIGH - 1, Due.HIGH
    };
    private static final int[] PLACES = {Due.LOW, -1, 0, 1, 2, Due.HIGH};
    private static final int[][] STATES = {
        {0},
        {1},
        {2, 0, 1, 0},
        {5, 0, 1, 1, 0, 2, 1, 1, 3, 1, 2, 3, 1, 3, 4, 1},
        {10, 0, 1, 1, 1, 2, 1000, 4, 5, 1, 5, 4, 2, 9, 5, 0, 9, 8, 7}
    };

    private final int[] state;
    private BetweenCounts x;
    private Oracle o;
    private int left = 0;

    private AnyArgumentsTest(int[] state) {
        this.state = state;
    }

    /** An object is only good for 512 calls: a new one comes in time. */
    private void ready() {
        if (left > 0) {
            left--;
            return;
        }
        left = CALLS;
        x = new BetweenCounts();
        o = new Oracle();
        for (int v = 0; v < state[0]; v++) {
            DUE.is("node", x.node(), o.node());
        }
        for (int a = 1; a + 2 < state.length; a += 3) {
            DUE.is("arc", x.arc(state[a], state[a + 1], state[a + 2]), o.arc(state[a], state[a + 1], state[a + 2]));
        }
        DUE.is("choose", x.choose(1, 0), o.choose(1, 0));
    }

    private static String text(String call, int... arguments) {
        return call + java.util.Arrays.toString(arguments);
    }

    private void one(int u) {
        ready();
        DUE.is(text("stress", u), x.stress(u), o.stress(u));
        ready();
        DUE.is(text("top", u), x.top(u), o.top(u));
        ready();
        DUE.is(text("told", u), x.told(u), o.told(u));
    }

    private void two(int u, int v) {
        ready();
        DUE.is(text("change", u, v), x.change(u, v), o.change(u, v));
        ready();
        DUE.is(text("choose", u, v), x.choose(u, v), o.choose(u, v));
        ready();
        DUE.is(text("far", u, v), x.far(u, v), o.far(u, v));
        ready();
        DUE.is(text("ways", u, v), x.ways(u, v), o.ways(u, v));
        ready();
        DUE.is(text("group", u, v), x.group(u, v), o.group().limb(u, v));
    }

    private static long limb(Oracle.Ratio ratio, int part, int limb) {
        return ratio == null ? Due.NONE : ratio.limb(part, limb);
    }

    private void three(int u, int v, int w) {
        ready();
        DUE.is(text("arc", u, v, w), x.arc(u, v, w), o.arc(u, v, w));
        ready();
        DUE.is(text("between", u, v, w), x.between(u, v, w), limb(o.between(u), v, w));
        ready();
        DUE.is(text("arcBetween", u, v, w), x.arcBetween(u, v, w), limb(o.arcBetween(u), v, w));
        ready();
        DUE.is(text("harmonic", u, v, w), x.harmonic(u, v, w), limb(o.harmonic(u), v, w));
        ready();
        DUE.is(text("close", u, v, w), x.close(u, v, w), limb(o.close(u), v, w));
        ready();
        DUE.is(text("carried", u, v, w), x.carried(u, v, w), limb(o.carried(u), v, w));
    }

    private void four(int s, int t) {
        for (int part : PLACES) {
            for (int limb : PLACES) {
                ready();
                DUE.is(text("resistance", s, t, part, limb), x.resistance(s, t, part, limb), limb(o.resistance(s, t), part, limb));
            }
        }
    }

    private void run() {
        for (int u : EDGES) {
            one(u);
            for (int v : EDGES) {
                two(u, v);
                four(u, v);
                for (int w : EDGES) {
                    three(u, v, w);
                }
            }
        }
    }

    public static void main(String[] args) {
        for (int[] state : STATES) {
            new AnyArgumentsTest(state).run();
        }
        DUE.end();
    }
}
