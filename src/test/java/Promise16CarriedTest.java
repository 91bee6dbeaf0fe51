/**
 * Promise 16, carried: "A FRACTION: for all sets of two other nodes of a node's PIECE, a unit of
 * current going in at one and out at the other one: half of what flows on all arcs at the node,
 * without signs, added."
 */
public final class Promise16CarriedTest {
    private static final Due DUE = new Due("Promise 16, carried");

    private static void due(BetweenCounts x, int node, long above, long below) {
        DUE.fraction("carried(" + node + ")", (p, l) -> x.carried(node, p, l), above, below);
    }

    /** "half of what flows on all arcs at the node, without signs": what goes in and what goes out. */
    static void halfOfWhatFlows() {
        due(Given.chain(1, 1), 1, 1, 1);
        due(Given.chain(3, 700), 1, 1, 1);
        due(Given.ring(3), 0, 1, 3);
        due(Given.network(3, 0, 1, 2, 1, 2, 3, 2, 0, 6), 1, 1, 6);
    }

    /** "for all sets of two": each one once, not once for each direction. */
    static void setsOfTwo() {
        due(Given.chain(1, 1, 1), 1, 2, 1);
        due(Given.ring(4), 2, 1, 1);
    }

    /** "of two other nodes": where the node is itself one of the two it does not count. */
    static void otherNodes() {
        due(Given.chain(1, 1), 0, 0, 1);
        due(Given.chain(1, 1), 2, 0, 1);
    }

    /** A bridge that no current goes by for 0 and 3, but for other sets. */
    static void aBridgeInBalance() {
        BetweenCounts x = Given.network(4, 0, 1, 1, 0, 2, 1, 1, 3, 1, 2, 3, 1, 1, 2, 5);
        due(x, 1, 17, 12);
        due(x, 2, 17, 12);
    }

    /** "of a node's PIECE": other pieces do not count. */
    static void ofItsPieceAlone() {
        BetweenCounts x = Given.network(7, 0, 1, 1, 1, 2, 1, 3, 4, 1, 4, 5, 1, 5, 6, 0);
        due(x, 1, 1, 1);
        due(x, 4, 1, 1);
        due(x, 6, 0, 1);
        x.arc(2, 3, 1);
        due(x, 1, 4, 1);
        due(x, 2, 6, 1);
        due(x, 4, 4, 1);
    }

    /** "0 as 0 / 1": a piece of one node and of two nodes has no set of two others. */
    static void piecesOfOneAndTwo() {
        due(Given.nodes(1), 0, 0, 1);
        due(Given.nodes(10), 9, 0, 1);
        due(Given.chain(1000), 0, 0, 1);
        due(Given.chain(1000), 1, 0, 1);
    }

    /** "by the arcs that are there, in both directions alike". */
    static void directionsAreAllTheSame() {
        due(Given.network(3, 1, 0, 1, 1, 2, 1), 1, 1, 1);
        due(Given.network(3, 0, 1, 1, 2, 1, 1), 1, 1, 1);
        due(Given.network(3, 1, 0, 1, 2, 1, 1), 1, 1, 1);
    }

    /** Arcs of the same two nodes carry their shares; one that is not there carries nothing. */
    static void arcsOfTheSameNodes() {
        due(Given.network(3, 0, 1, 1, 1, 0, 2, 1, 2, 1, 0, 2, 0), 1, 1, 1);
        due(Given.network(3, 0, 1, 1, 1, 0, 1, 1, 2, 3, 0, 2, 0, 2, 0, 6), 1, 1, 6);
    }

    /** That nodes are BEGIN, END or of the GROUP is all the same. */
    static void choicesAreAllTheSame() {
        BetweenCounts x = Given.ring(3);
        for (int what = 0; what < 3; what++) {
            for (int v = 0; v < 3; v++) {
                x.choose(v, what);
            }
        }
        due(x, 0, 1, 3);
    }

    /** A star of ten nodes: its middle carries all sets of two of nine, its ends none. */
    static void theMost() {
        BetweenCounts x = Given.nodes(10);
        for (int v = 1; v < 10; v++) {
            x.arc(0, v, 1000);
        }
        due(x, 0, 36, 1);
        due(x, 9, 0, 1);
        due(Given.full(), 4, 20, 1);
    }

    /** "NONE: no such node". */
    static void noSuchNode() {
        DUE.hasNoOtherNode(BetweenCounts::carried);
    }

    /** "NONE: .. another part": also where the fraction is 0 / 1. */
    static void anotherPart() {
        BetweenCounts x = Given.ring(3);
        DUE.hasNoOtherPart((p, l) -> x.carried(0, p, l));
        BetweenCounts y = Given.nodes(1);
        DUE.hasNoOtherPart((p, l) -> y.carried(0, p, l));
    }

    /** "NONE: .. a limb below 0": also where the fraction is 0 / 1. */
    static void aLimbBelow0() {
        BetweenCounts x = Given.ring(3);
        DUE.hasNoLimbBelow0((p, l) -> x.carried(0, p, l));
        BetweenCounts y = Given.nodes(1);
        DUE.hasNoLimbBelow0((p, l) -> y.carried(0, p, l));
    }

    /** "0 beyond its highest one". */
    static void beyondTheHighestLimb() {
        BetweenCounts x = Given.ring(3);
        DUE.isZeroBeyondLimb0((p, l) -> x.carried(0, p, l));
        BetweenCounts y = Given.nodes(1);
        DUE.isZeroBeyondLimb0((p, l) -> y.carried(0, p, l));
    }

    public static void main(String[] args) throws Exception {
        DUE.runAll(Promise16CarriedTest.class);
    }
}
