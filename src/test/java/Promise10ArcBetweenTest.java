/**
 * Promise 10, arcBetween: "A FRACTION: for all PAIRS the LEAST WAYS by an arc, by all LEAST WAYS of
 * the PAIR, added (0 / 1 of an arc that is not there)."
 */
public final class Promise10ArcBetweenTest {
    private static final Due DUE = new Due("Promise 10, arcBetween");
    private static final int LOW = Due.LOW;
    private static final int HIGH = Due.HIGH;

    private static void due(BetweenCounts x, int arc, long above, long below) {
        DUE.fraction("arcBetween(" + arc + ")", (p, l) -> x.arcBetween(arc, p, l), above, below);
    }

    /** "the LEAST WAYS by an arc, by all LEAST WAYS of the PAIR, added". */
    static void sharesAdded() {
        BetweenCounts x = Given.diamond();
        due(x, 0, 2, 1);
        due(x, 2, 3, 1);
        due(x, 4, 4, 1);
        x.arc(0, 1, 1);
        due(x, 1, 5, 3);
    }

    /** "(More arcs may lead from one node to one other.)": each has its own share. */
    static void arcsOfTheSameNodes() {
        BetweenCounts x = Given.diamond();
        x.arc(0, 1, 1);
        due(x, 0, 7, 6);
        due(x, 5, 7, 6);
        x.change(5, 2);
        due(x, 0, 2, 1);
        due(x, 5, 0, 1);
    }

    /** "for all PAIRS": also for that of the arc's own ends. */
    static void theArcsOwnEnds() {
        due(Given.chain(1000), 0, 1, 1);
        BetweenCounts x = Given.ring(3);
        for (int a = 0; a < 3; a++) {
            due(x, a, 3, 1);
        }
    }

    /** Against its direction an arc is of no way. */
    static void inItsDirectionAlone() {
        BetweenCounts x = Given.network(2, 0, 1, 1, 1, 0, 1);
        due(x, 0, 1, 1);
        due(x, 1, 1, 1);
        x.choose(0, 1);
        due(x, 0, 0, 1);
        due(x, 1, 1, 1);
    }

    /** "(0 / 1 of an arc that is not there)". */
    static void anArcThatIsNotThere() {
        BetweenCounts x = Given.diamond();
        x.arc(1, 2, 0);
        due(x, 5, 0, 1);
        x.change(4, 0);
        due(x, 4, 0, 1);
        DUE.isZeroBeyondLimb0((p, l) -> x.arcBetween(4, p, l));
        // No weight at all would make it a part of each least way past its two ends.
        BetweenCounts y = Given.network(3, 0, 1, 1, 1, 2, 1, 0, 2, 1, 1, 2, 0);
        due(y, 3, 0, 1);
    }

    /** An arc that no least way goes by. */
    static void anArcOfNoLeastWay() {
        BetweenCounts x = Given.chain(1, 1);
        x.arc(0, 2, 3);
        due(x, 2, 0, 1);
        x.change(2, 2);
        due(x, 2, 1, 2);
    }

    /** "PAIRS are of a BEGIN s and an END t". */
    static void ofPairsAlone() {
        BetweenCounts x = Given.diamond();
        x.choose(0, 1);
        due(x, 0, 0, 1);
        due(x, 4, 3, 1);
        x.choose(4, 2);
        due(x, 4, 0, 1);
        due(x, 2, 1, 1);
    }

    /** The arc in the middle of ten nodes, and the last arc of thirty. */
    static void theMost() {
        due(Given.longChain(1), 4, 25, 1);
        BetweenCounts x = Given.nodes(2);
        for (int a = 0; a < 30; a++) {
            x.arc(0, 1, 1);
        }
        due(x, 29, 1, 30);
    }

    /** "NONE: no such .. arc". */
    static void noSuchArc() {
        BetweenCounts x = Given.diamond();
        int[] wrong = {-1, 5, 29, 30, 31, LOW, HIGH};
        for (int a : wrong) {
            DUE.isNone("arcBetween(" + a + ")", (p, l) -> x.arcBetween(a, p, l));
        }
        BetweenCounts full = Given.full();
        DUE.isNone("the thirty-first of thirty", (p, l) -> full.arcBetween(30, p, l));
        BetweenCounts none = Given.nodes(2);
        DUE.isNone("without arcs", (p, l) -> none.arcBetween(0, p, l));
    }

    /** "NONE: .. another part": also of an arc that is not there. */
    static void anotherPart() {
        BetweenCounts x = Given.diamond();
        DUE.hasNoOtherPart((p, l) -> x.arcBetween(4, p, l));
        x.change(4, 0);
        DUE.hasNoOtherPart((p, l) -> x.arcBetween(4, p, l));
    }

    /** "NONE: .. a limb below 0": also of an arc that is not there. */
    static void aLimbBelow0() {
        BetweenCounts x = Given.diamond();
        DUE.hasNoLimbBelow0((p, l) -> x.arcBetween(4, p, l));
        x.change(4, 0);
        DUE.hasNoLimbBelow0((p, l) -> x.arcBetween(4, p, l));
    }

    /** "0 beyond its highest one". */
    static void beyondTheHighestLimb() {
        BetweenCounts x = Given.diamond();
        DUE.isZeroBeyondLimb0((p, l) -> x.arcBetween(4, p, l));
    }

    public static void main(String[] args) throws Exception {
        DUE.runAll(Promise10ArcBetweenTest.class);
    }
}
