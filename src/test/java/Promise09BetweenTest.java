/**
 * Promise 9, between: "BETWEEN, a FRACTION: for all PAIRS without the node the LEAST WAYS that go
 * through it, by all LEAST WAYS of the PAIR, added."
 */
public final class Promise09BetweenTest {
    private static final Due DUE = new Due("Promise 9, between");

    private static void due(BetweenCounts x, int node, long above, long below) {
        DUE.fraction("between(" + node + ")", (p, l) -> x.between(node, p, l), above, below);
    }

    /** "the LEAST WAYS that go through it, by all LEAST WAYS of the PAIR, added". */
    static void sharesAdded() {
        BetweenCounts x = Given.diamond();
        due(x, 1, 1, 1);
        due(x, 3, 3, 1);
        x.arc(0, 1, 1);
        due(x, 1, 4, 3);
        due(x, 2, 2, 3);
        x.arc(0, 3, 2);
        due(x, 1, 1, 1);
        due(x, 2, 1, 2);
        due(x, 3, 3, 1);
    }

    /** "for all PAIRS without the node": being first or last is not being between. */
    static void pairsWithoutTheNode() {
        BetweenCounts x = Given.diamond();
        due(x, 0, 0, 1);
        due(x, 4, 0, 1);
        BetweenCounts y = Given.ring(4);
        for (int v = 0; v < 4; v++) {
            due(y, v, 3, 1);
        }
    }

    /** "PAIRS are of a BEGIN s and an END t". */
    static void ofPairsAlone() {
        BetweenCounts x = Given.diamond();
        x.choose(0, 1);
        due(x, 3, 2, 1);
        x.choose(4, 1);
        due(x, 3, 2, 1);
        x.choose(4, 2);
        due(x, 3, 0, 1);
    }

    /** The node between need be neither, and may be of the GROUP. */
    static void theNodeBetweenMayBeNeither() {
        BetweenCounts x = Given.diamond();
        x.choose(3, 0);
        x.choose(3, 1);
        x.choose(3, 2);
        due(x, 3, 3, 1);
    }

    /** "0 as 0 / 1": no pairs, or none through it. */
    static void zero() {
        due(Given.nodes(1), 0, 0, 1);
        due(Given.nodes(10), 9, 0, 1);
        due(Given.network(3, 0, 1, 1, 1, 2, 1, 0, 2, 1), 1, 0, 1);
        due(Given.network(3, 0, 1, 1, 1, 2, 0), 1, 0, 1);
    }

    /** As many pairs as a node can be between of: all others lead to it, and it to them. */
    static void theMost() {
        BetweenCounts x = Given.nodes(10);
        for (int v = 1; v < 10; v++) {
            x.arc(v, 0, 1000);
            x.arc(0, v, 1000);
        }
        due(x, 0, 72, 1);
        due(x, 9, 0, 1);
    }

    /** "NONE: no such node". */
    static void noSuchNode() {
        DUE.hasNoOtherNode(BetweenCounts::between);
    }

    /** "NONE: .. another part". */
    static void anotherPart() {
        BetweenCounts x = Given.diamond();
        DUE.hasNoOtherPart((p, l) -> x.between(3, p, l));
        DUE.hasNoOtherPart((p, l) -> x.between(0, p, l));
    }

    /** "NONE: .. a limb below 0". */
    static void aLimbBelow0() {
        BetweenCounts x = Given.diamond();
        DUE.hasNoLimbBelow0((p, l) -> x.between(3, p, l));
    }

    /** "0 beyond its highest one". */
    static void beyondTheHighestLimb() {
        BetweenCounts x = Given.diamond();
        DUE.isZeroBeyondLimb0((p, l) -> x.between(3, p, l));
    }

    public static void main(String[] args) throws Exception {
        DUE.runAll(Promise09BetweenTest.class);
    }
}
