/** Promise 6, far: "The FAR of two nodes. NONE: no way leads there, no such nodes." */
public final class Promise06FarTest {
    private static final Due DUE = new Due("Promise 6, far");
    private static final int NONE = Due.NONE;
    private static final int LOW = Due.LOW;
    private static final int HIGH = Due.HIGH;

    /** "The FAR of two nodes is the least length of a way". */
    static void theLeastLength() {
        BetweenCounts x = Given.network(3, 0, 1, 7, 1, 2, 8, 0, 2, 20, 0, 1, 9);
        DUE.is("the lesser of two arcs", x.far(0, 1), 7);
        DUE.is("two steps are less than one", x.far(0, 2), 15);
        x.arc(0, 2, 14);
        DUE.is("one step is less than two", x.far(0, 2), 14);
    }

    /** "(0 of a node and itself)": apart, in a ring, and chosen to be neither BEGIN nor END. */
    static void ofANodeAndItself() {
        DUE.is("alone", Given.nodes(1).far(0, 0), 0);
        BetweenCounts x = Given.ring(3);
        DUE.is("in a ring", x.far(1, 1), 0);
        x.choose(1, 1);
        x.choose(1, 2);
        DUE.is("neither begin nor end", x.far(1, 1), 0);
    }

    /** "NONE: no way leads there". */
    static void noWayLeadsThere() {
        BetweenCounts x = Given.network(4, 0, 1, 1, 2, 1, 1);
        DUE.is("against the arc", x.far(1, 0), NONE);
        DUE.is("arcs that meet", x.far(0, 2), NONE);
        DUE.is("to a node apart", x.far(0, 3), NONE);
        DUE.is("from a node apart", x.far(3, 0), NONE);
        x.arc(1, 2, 0);
        DUE.is("by an arc that is not there", x.far(0, 2), NONE);
    }

    /** "NONE: .. no such nodes". */
    static void noSuchNodes() {
        BetweenCounts x = Given.chain(1, 1);
        int[] wrong = {-1, 3, 9, 10, LOW, HIGH};
        for (int v : wrong) {
            DUE.is("far(0, " + v + ")", x.far(0, v), NONE);
            DUE.is("far(" + v + ", 2)", x.far(v, 2), NONE);
            DUE.is("far(" + v + ", " + v + ")", x.far(v, v), NONE);
        }
        DUE.is("without nodes", new BetweenCounts().far(0, 0), NONE);
        DUE.is("the eleventh of ten", Given.nodes(10).far(10, 10), NONE);
        DUE.is("the tenth of ten", Given.nodes(10).far(9, 9), 0);
    }

    /** Nine steps of 1000, and one of 1. */
    static void theGreatestAndTheLeast() {
        BetweenCounts x = Given.longChain(1000);
        DUE.is("far(0, 9)", x.far(0, 9), 9000);
        DUE.is("far(9, 0)", x.far(9, 0), NONE);
        x.arc(9, 0, 1);
        DUE.is("far(9, 0) by an arc of 1", x.far(9, 0), 1);
        DUE.is("far(9, 8)", x.far(9, 8), 8001);
    }

    /** FAR is of nodes: that they are BEGIN, END or of the GROUP is all the same. */
    static void choicesAreAllTheSame() {
        BetweenCounts x = Given.chain(2, 3);
        for (int what = 0; what < 3; what++) {
            for (int v = 0; v < 3; v++) {
                x.choose(v, what);
            }
        }
        DUE.is("far(0, 2)", x.far(0, 2), 5);
    }

    public static void main(String[] args) throws Exception {
        DUE.runAll(Promise06FarTest.class);
    }
}
