/**
 * Promise 17, told: "Nodes (what = 0), arcs (1), arcs that are there (2), PAIRS (3), nodes of the
 * GROUP (4), PIECES (5). NONE: another what."
 */
public final class Promise17ToldTest {
    private static final Due DUE = new Due("Promise 17, told");
    private static final int NONE = Due.NONE;
    private static final int LOW = Due.LOW;
    private static final int HIGH = Due.HIGH;

    /** "Nodes (what = 0)": from none to ten; a refused one is none. */
    static void nodes() {
        BetweenCounts x = new BetweenCounts();
        for (int v = 0; v < 10; v++) {
            DUE.is("told(0)", x.told(0), v);
            x.node();
        }
        x.node();
        DUE.is("told(0) of ten", x.told(0), 10);
    }

    /** "arcs (1)": also those that are not there; a refused one is none. */
    static void arcs() {
        BetweenCounts x = Given.nodes(2);
        for (int a = 0; a < 30; a++) {
            DUE.is("told(1)", x.told(1), a);
            x.arc(0, 1, a % 3);
            x.arc(0, 0, 1);
        }
        x.arc(0, 1, 1);
        DUE.is("told(1) of thirty", x.told(1), 30);
    }

    /** "arcs that are there (2)": with a weight above 0. */
    static void arcsThatAreThere() {
        BetweenCounts x = Given.nodes(2);
        for (int a = 0; a < 30; a++) {
            x.arc(0, 1, 0);
        }
        DUE.is("none is", x.told(2), 0);
        for (int a = 0; a < 30; a++) {
            x.change(a, a % 2 == 0 ? 1 : 1000);
            DUE.is("told(2)", x.told(2), a + 1);
        }
        x.change(7, 0);
        DUE.is("one less", x.told(2), 29);
        DUE.is("told(1)", x.told(1), 30);
    }

    /** "PAIRS (3)": none, and all of ten nodes. */
    static void pairs() {
        DUE.is("nodes apart", Given.nodes(10).told(3), 0);
        DUE.is("a chain", Given.longChain(1).told(3), 45);
        BetweenCounts x = Given.ring(10);
        DUE.is("a ring", x.told(3), 90);
        x.choose(0, 1);
        DUE.is("without a begin", x.told(3), 81);
        x.choose(1, 2);
        DUE.is("without an end", x.told(3), 73);
        x.choose(0, 2);
        DUE.is("without what is neither", x.told(3), 64);
        x.choose(0, 0);
        DUE.is("the group is all the same", x.told(3), 64);
        x.change(3, 0);
        // A chain of 45 pairs now, without three from 0, six to 0 and seven to 1, one of which is from 0.
        DUE.is("with an arc that is not there", x.told(3), 30);
        for (int v = 1; v < 10; v++) {
            x.choose(v, 1);
        }
        DUE.is("without begins", x.told(3), 0);
    }

    /** A pair is counted once, however many ways there are. */
    static void pairsAreNotWays() {
        DUE.is("told(3)", Given.full().told(3), 45);
    }

    /** "nodes of the GROUP (4)": none, and all of ten. */
    static void nodesOfTheGroup() {
        BetweenCounts x = Given.nodes(10);
        DUE.is("nobody", x.told(4), 0);
        for (int v = 0; v < 10; v++) {
            x.choose(v, 0);
            DUE.is("told(4)", x.told(4), v + 1);
        }
        x.choose(9, 0);
        DUE.is("one less", x.told(4), 9);
        x.choose(8, 1);
        x.choose(8, 2);
        x.choose(10, 0);
        DUE.is("other choices are all the same", x.told(4), 9);
    }

    /** "PIECES (5)": each node alone, and all ten together; "whatever their directions". */
    static void pieces() {
        DUE.is("without nodes", new BetweenCounts().told(5), 0);
        DUE.is("one node", Given.nodes(1).told(5), 1);
        BetweenCounts x = Given.nodes(10);
        DUE.is("all apart", x.told(5), 10);
        for (int v = 9; v > 0; v--) {
            x.arc(v % 2 == 0 ? v : v - 1, v % 2 == 0 ? v - 1 : v, 1);
            DUE.is("told(5)", x.told(5), v);
        }
        x.arc(0, 9, 1);
        DUE.is("one more arc within", x.told(5), 1);
        x.change(9, 0);
        x.change(4, 0);
        DUE.is("an arc that is not there", x.told(5), 2);
        x.choose(3, 0);
        x.choose(3, 1);
        x.choose(3, 2);
        DUE.is("choices are all the same", x.told(5), 2);
    }

    /** Pieces that only late arcs join, in an order that goes from high numbers to low ones. */
    static void piecesJoinedLate() {
        BetweenCounts x = Given.network(10, 8, 9, 1, 7, 8, 1, 6, 7, 1, 4, 5, 1, 3, 4, 1, 2, 3, 1, 1, 2, 1);
        DUE.is("three", x.told(5), 3);
        x.arc(9, 5, 1);
        DUE.is("two", x.told(5), 2);
        x.arc(0, 6, 1);
        DUE.is("one", x.told(5), 1);
        DUE.is("0 and 1 are of one piece", x.resistance(0, 1, 0, 0), 9);
    }

    /** "NONE: another what." */
    static void anotherWhat() {
        int[] wrong = {-1, 6, 7, LOW, HIGH};
        for (int what : wrong) {
            DUE.is("told(" + what + ")", Given.diamond().told(what), NONE);
            DUE.is("told(" + what + ") without nodes", new BetweenCounts().told(what), NONE);
        }
    }

    public static void main(String[] args) throws Exception {
        DUE.runAll(Promise17ToldTest.class);
    }
}
