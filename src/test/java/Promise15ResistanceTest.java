/**
 * Promise 15, resistance: "A FRACTION: the potential at s less that at t, when a unit of current goes
 * in at s and out at t; 0 / 1 of a node and itself. NONE also: they are not of one PIECE."
 */
public final class Promise15ResistanceTest {
    private static final Due DUE = new Due("Promise 15, resistance");
    private static final int LOW = Due.LOW;
    private static final int HIGH = Due.HIGH;

    /** A triangle, and two nodes with an arc that is not there. */
    private static BetweenCounts triangle() {
        return Given.network(5, 0, 1, 2, 1, 2, 3, 0, 2, 6, 3, 4, 0);
    }

    private static void due(BetweenCounts x, int s, int t, long above, long below) {
        DUE.fraction("resistance(" + s + ", " + t + ")", (p, l) -> x.resistance(s, t, p, l), above, below);
    }

    /** "the potential at s less that at t". */
    static void thePotentials() {
        due(triangle(), 0, 1, 1, 4);
        due(triangle(), 1, 2, 2, 9);
        due(triangle(), 2, 0, 5, 36);
        due(Given.chain(2, 3, 6), 0, 3, 1, 1);
        due(Given.chain(2, 3, 6), 1, 2, 1, 3);
        due(Given.ring(10), 0, 5, 5, 2);
        due(Given.ring(10), 0, 1, 9, 10);
    }

    /** "in both directions alike": s and t may change places, and arcs be turned round. */
    static void directionsAreAllTheSame() {
        due(triangle(), 1, 0, 1, 4);
        due(triangle(), 0, 2, 5, 36);
        due(Given.network(3, 1, 0, 2, 1, 2, 3), 0, 2, 5, 6);
        due(Given.network(3, 0, 1, 2, 2, 1, 3), 0, 2, 5, 6);
        due(Given.network(3, 0, 1, 2, 2, 1, 3), 2, 0, 5, 6);
    }

    /** Arcs of the same two nodes conduct together, whatever their directions. */
    static void arcsOfTheSameNodes() {
        due(Given.network(2, 0, 1, 2, 1, 0, 3, 0, 1, 5), 0, 1, 1, 10);
    }

    /** "0 / 1 of a node and itself". */
    static void ofANodeAndItself() {
        due(triangle(), 2, 2, 0, 1);
        due(triangle(), 4, 4, 0, 1);
        due(Given.nodes(1), 0, 0, 0, 1);
        due(Given.full(), 9, 9, 0, 1);
    }

    /** "NONE also: they are not of one PIECE." */
    static void notOfOnePiece() {
        BetweenCounts x = triangle();
        int[][] apart = {{0, 3}, {3, 0}, {4, 2}, {3, 4}, {4, 3}};
        for (int[] a : apart) {
            DUE.isNone("resistance(" + a[0] + ", " + a[1] + ")", (p, l) -> x.resistance(a[0], a[1], p, l));
        }
        x.change(3, 1);
        due(x, 3, 4, 1, 1);
        DUE.isNone("still apart", (p, l) -> x.resistance(0, 3, p, l));
        x.arc(4, 0, 1);
        due(x, 3, 0, 2, 1);
        x.change(4, 0);
        DUE.isNone("apart again", (p, l) -> x.resistance(3, 0, p, l));
        due(x, 3, 4, 1, 1);
    }

    /** Another question in between, of another piece, is no matter. */
    static void twoPiecesInTurn() {
        BetweenCounts x = Given.network(5, 0, 2, 3, 1, 3, 5, 3, 4, 7);
        for (int turn = 0; turn < 3; turn++) {
            due(x, 0, 2, 1, 3);
            due(x, 1, 4, 12, 35);
            due(x, 1, 3, 1, 5);
        }
    }

    /** All s and t of one object, those with the same sum one after the other: each has its own answer. */
    static void allInTurn() {
        BetweenCounts x = Given.longChain(1);
        for (int sum = 0; sum < 19; sum++) {
            for (int s = Math.max(0, sum - 9); s <= Math.min(9, sum); s++) {
                int t = sum - s;
                DUE.is("resistance(" + s + ", " + t + ")", x.resistance(s, t, 0, 0), Math.abs(s - t));
            }
        }
    }

    /** Current is of nodes and arcs: that nodes are BEGIN, END or of the GROUP is all the same. */
    static void choicesAreAllTheSame() {
        BetweenCounts x = triangle();
        for (int what = 0; what < 3; what++) {
            for (int v = 0; v < 3; v++) {
                x.choose(v, what);
            }
        }
        due(x, 0, 1, 1, 4);
    }

    /** Nine arcs of 1 in a row, and thirty arcs of 1000 side by side. */
    static void theGreatestAndTheLeast() {
        due(Given.longChain(1), 0, 9, 9, 1);
        BetweenCounts x = Given.nodes(2);
        for (int a = 0; a < 30; a++) {
            x.arc(a % 2, 1 - a % 2, 1000);
        }
        due(x, 0, 1, 1, 30000);
    }

    /** "NONE: no such node". */
    static void noSuchNode() {
        BetweenCounts x = triangle();
        int[] wrong = {-1, 5, 9, 10, LOW, HIGH};
        for (int v : wrong) {
            DUE.isNone("resistance(0, " + v + ")", (p, l) -> x.resistance(0, v, p, l));
            DUE.isNone("resistance(" + v + ", 2)", (p, l) -> x.resistance(v, 2, p, l));
            DUE.isNone("resistance(" + v + ", " + v + ")", (p, l) -> x.resistance(v, v, p, l));
        }
        BetweenCounts ten = Given.nodes(10);
        DUE.isNone("the eleventh of ten", (p, l) -> ten.resistance(10, 10, p, l));
        BetweenCounts none = new BetweenCounts();
        DUE.isNone("without nodes", (p, l) -> none.resistance(0, 0, p, l));
    }

    /** "NONE: .. another part": also of a node and itself. */
    static void anotherPart() {
        BetweenCounts x = triangle();
        DUE.hasNoOtherPart((p, l) -> x.resistance(0, 1, p, l));
        DUE.hasNoOtherPart((p, l) -> x.resistance(1, 1, p, l));
    }

    /** "NONE: .. a limb below 0": also of a node and itself. */
    static void aLimbBelow0() {
        BetweenCounts x = triangle();
        DUE.hasNoLimbBelow0((p, l) -> x.resistance(0, 1, p, l));
        DUE.hasNoLimbBelow0((p, l) -> x.resistance(1, 1, p, l));
    }

    /** "0 beyond its highest one". */
    static void beyondTheHighestLimb() {
        BetweenCounts x = triangle();
        DUE.isZeroBeyondLimb0((p, l) -> x.resistance(0, 1, p, l));
        DUE.isZeroBeyondLimb0((p, l) -> x.resistance(1, 1, p, l));
    }

    public static void main(String[] args) throws Exception {
        DUE.runAll(Promise15ResistanceTest.class);
    }
}
