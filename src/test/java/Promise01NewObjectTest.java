/** Promise 1, a new object: "No nodes, no arcs." */
public final class Promise01NewObjectTest {
    private static final Due DUE = new Due("Promise 1, a new object");
    private static final int NONE = Due.NONE;

    /** "public static final int NONE = -1". */
    static void noneIsMinusOne() {
        DUE.is("NONE", BetweenCounts.NONE, -1);
    }

    /** "No nodes". */
    static void noNodes() {
        BetweenCounts x = new BetweenCounts();
        DUE.is("told(0)", x.told(0), 0);
        DUE.is("far(0, 0)", x.far(0, 0), NONE);
        DUE.is("ways(0, 0)", x.ways(0, 0), NONE);
        DUE.is("stress(0)", x.stress(0), NONE);
        DUE.is("top(0)", x.top(0), NONE);
        DUE.is("choose(0, 0)", x.choose(0, 0), false);
        DUE.is("arc(0, 1, 1)", x.arc(0, 1, 1), NONE);
        DUE.isNone("between", (p, l) -> x.between(0, p, l));
        DUE.isNone("harmonic", (p, l) -> x.harmonic(0, p, l));
        DUE.isNone("close", (p, l) -> x.close(0, p, l));
        DUE.isNone("resistance", (p, l) -> x.resistance(0, 0, p, l));
        DUE.isNone("carried", (p, l) -> x.carried(0, p, l));
        DUE.is("the first node", x.node(), 0);
    }

    /** "no arcs". */
    static void noArcs() {
        BetweenCounts x = new BetweenCounts();
        DUE.is("told(1)", x.told(1), 0);
        DUE.is("told(2)", x.told(2), 0);
        DUE.is("change(0, 1)", x.change(0, 1), NONE);
        DUE.isNone("arcBetween", (p, l) -> x.arcBetween(0, p, l));
        x.node();
        x.node();
        DUE.is("far(0, 1)", x.far(0, 1), NONE);
        DUE.is("the first arc", x.arc(0, 1, 1), 0);
    }

    /** What is of nodes and arcs is empty with them. */
    static void noPairsNoGroupNoPieces() {
        BetweenCounts x = new BetweenCounts();
        DUE.is("told(3)", x.told(3), 0);
        DUE.is("told(4)", x.told(4), 0);
        DUE.is("told(5)", x.told(5), 0);
        DUE.fraction("group", x::group, 0, 1);
    }

    static void twoObjectsHaveNothingInCommon() {
        BetweenCounts x = new BetweenCounts();
        BetweenCounts y = Given.diamond();
        y.choose(0, 0);
        DUE.is("told(0) of the one", x.told(0), 0);
        DUE.is("told(1) of the one", x.told(1), 0);
        x.node();
        DUE.is("told(4) of the one", x.told(4), 0);
        DUE.is("told(0) of the other one", y.told(0), 5);
        DUE.is("told(1) of the other one", y.told(1), 5);
    }

    public static void main(String[] args) throws Exception {
        DUE.runAll(Promise01NewObjectTest.class);
    }
}
