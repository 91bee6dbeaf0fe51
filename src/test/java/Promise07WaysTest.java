/**
 * Promise 7, ways: "How many LEAST WAYS two nodes have: 0 if no way leads there, 1 of a node and
 * itself. NONE: no such nodes."
 */
public final class Promise07WaysTest {
    private static final Due DUE = new Due("Promise 7, ways");
    private static final int NONE = Due.NONE;
    private static final int LOW = Due.LOW;
    private static final int HIGH = Due.HIGH;

    /** "How many LEAST WAYS two nodes have": those of the least length alone. */
    static void howMany() {
        BetweenCounts x = Given.diamond();
        DUE.is("one", x.ways(0, 1), 1);
        DUE.is("two", x.ways(0, 4), 2);
        x.arc(0, 3, 2);
        DUE.is("three of the same length", x.ways(0, 4), 3);
        x.arc(0, 3, 3);
        DUE.is("a longer one is none", x.ways(0, 4), 3);
        x.arc(0, 3, 1);
        DUE.is("the shortest one alone", x.ways(0, 4), 1);
    }

    /** "two ways differ when some arc does". */
    static void differentArcsAreDifferentWays() {
        BetweenCounts x = Given.network(3, 0, 1, 5, 0, 1, 5, 1, 2, 7, 1, 2, 7, 1, 2, 7);
        DUE.is("ways(0, 1)", x.ways(0, 1), 2);
        DUE.is("ways(1, 2)", x.ways(1, 2), 3);
        DUE.is("ways(0, 2)", x.ways(0, 2), 6);
        x.change(0, 6);
        DUE.is("an arc that is longer", x.ways(0, 2), 3);
        x.change(0, 0);
        DUE.is("an arc that is not there", x.ways(0, 2), 3);
    }

    /** "0 if no way leads there". */
    static void noWayLeadsThere() {
        BetweenCounts x = Given.network(4, 0, 1, 1, 2, 1, 1);
        DUE.is("against the arc", x.ways(1, 0), 0);
        DUE.is("arcs that meet", x.ways(0, 2), 0);
        DUE.is("to a node apart", x.ways(0, 3), 0);
        DUE.is("from a node apart", x.ways(3, 0), 0);
        x.arc(1, 2, 0);
        DUE.is("by an arc that is not there", x.ways(0, 2), 0);
    }

    /** "1 of a node and itself": apart and in a ring alike. */
    static void ofANodeAndItself() {
        DUE.is("alone", Given.nodes(1).ways(0, 0), 1);
        BetweenCounts x = Given.network(2, 0, 1, 1, 0, 1, 1, 1, 0, 1);
        DUE.is("ways(0, 0)", x.ways(0, 0), 1);
        DUE.is("ways(1, 1)", x.ways(1, 1), 1);
        x.choose(1, 1);
        x.choose(1, 2);
        DUE.is("neither begin nor end", x.ways(1, 1), 1);
    }

    /** "NONE: no such nodes." */
    static void noSuchNodes() {
        BetweenCounts x = Given.chain(1, 1);
        int[] wrong = {-1, 3, 9, 10, LOW, HIGH};
        for (int v : wrong) {
            DUE.is("ways(0, " + v + ")", x.ways(0, v), NONE);
            DUE.is("ways(" + v + ", 2)", x.ways(v, 2), NONE);
            DUE.is("ways(" + v + ", " + v + ")", x.ways(v, v), NONE);
        }
        DUE.is("without nodes", new BetweenCounts().ways(0, 0), NONE);
        DUE.is("the eleventh of ten", Given.nodes(10).ways(10, 10), NONE);
        DUE.is("the tenth of ten", Given.nodes(10).ways(9, 9), 1);
    }

    /** Nine steps that share 30 arcs, and 30 arcs of one step. */
    static void theMost() {
        DUE.is("nine steps", Given.full().ways(0, 9), 4 * 4 * 4 * 3 * 3 * 3 * 3 * 3 * 3);
        BetweenCounts x = Given.nodes(2);
        for (int a = 0; a < 30; a++) {
            x.arc(1, 0, 1000);
        }
        DUE.is("one step", x.ways(1, 0), 30);
    }

    /** Ways are of nodes: that they are BEGIN, END or of the GROUP is all the same. */
    static void choicesAreAllTheSame() {
        BetweenCounts x = Given.diamond();
        for (int what = 0; what < 3; what++) {
            for (int v = 0; v < 5; v++) {
                x.choose(v, what);
            }
        }
        DUE.is("ways(0, 4)", x.ways(0, 4), 2);
    }

    public static void main(String[] args) throws Exception {
        DUE.runAll(Promise07WaysTest.class);
    }
}
