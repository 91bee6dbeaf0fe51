/** The document's sentences under "What it is" and "Terms", but for those on fractions. */
public final class TermsTest {
    private static final Due DUE = new Due("Terms");
    private static final int NONE = Due.NONE;

    /** "An object is used for at most 512 calls after it has been made": the last of them is as good. */
    static void usedFor512Calls() {
        BetweenCounts x = Given.full();
        int calls = 40;
        int had = 1000;
        for (int turn = 0; calls < 508; turn++) {
            int weight = 1 + turn % 1000;
            DUE.is("change", x.change(0, weight), had);
            DUE.is("far(0, 1)", x.far(0, 1), weight);
            DUE.is("ways(0, 9)", x.ways(0, 9), 11664);
            DUE.is("resistance below", x.resistance(0, 1, 1, 0), 3000 + weight);
            had = weight;
            calls += 4;
        }
        DUE.is("call 509", x.node(), NONE);
        DUE.is("call 510", x.change(0, 1000), had);
        DUE.is("call 511", x.ways(0, 9), 46656);
        DUE.is("call 512", x.between(8, 0, 0), 8);
    }

    /** "NODES, at most 10, are numbered from 0 on in the order in which they came". */
    static void nodesAreNumberedFrom0On() {
        BetweenCounts x = new BetweenCounts();
        for (int v = 0; v < 10; v++) {
            DUE.is("node()", x.node(), v);
        }
        DUE.is("at most 10", x.node(), NONE);
    }

    /** "ARCS, at most 30, likewise": refused ones use up no number, and those not there have one. */
    static void arcsAreNumberedLikewise() {
        BetweenCounts x = Given.nodes(3);
        for (int a = 0; a < 30; a++) {
            DUE.is("refused", x.arc(1, 1, 5), NONE);
            DUE.is("refused for its weight", x.arc(0, 1, 1001), NONE);
            DUE.is("arc", x.arc(a % 2, 2, a % 4 == 0 ? 0 : a), a);
        }
        DUE.is("at most 30", x.arc(0, 1, 1), NONE);
        for (int a = 0; a < 30; a++) {
            DUE.is("its weight", x.change(a, 1), a % 4 == 0 ? 0 : a);
        }
    }

    /** "An arc leads from a node to another one". */
    static void anArcLeadsToAnotherNode() {
        BetweenCounts x = Given.nodes(2);
        DUE.is("to itself", x.arc(1, 1, 1), NONE);
        DUE.is("to another one", x.arc(1, 0, 1), 0);
        DUE.is("far(1, 0)", x.far(1, 0), 1);
        DUE.is("far(0, 1)", x.far(0, 1), NONE);
    }

    /** "has a WEIGHT 0 .. 1000". */
    static void weightsFrom0To1000() {
        BetweenCounts x = Given.nodes(2);
        DUE.is("-1", x.arc(0, 1, -1), NONE);
        DUE.is("0", x.arc(0, 1, 0), 0);
        DUE.is("1000", x.arc(0, 1, 1000), 1);
        DUE.is("1001", x.arc(0, 1, 1001), NONE);
        DUE.is("change to -1", x.change(1, -1), NONE);
        DUE.is("change to 1001", x.change(1, 1001), NONE);
        DUE.is("change to 0", x.change(1, 0), 1000);
        DUE.is("change to 1000", x.change(0, 1000), 0);
    }

    /** "with 0 it is not there": every call answers as if it had never come, but for its number. */
    static void withZeroItIsNotThere() {
        BetweenCounts x = Given.network(5, 0, 1, 1, 1, 2, 1, 2, 3, 0, 0, 2, 0, 0, 1, 0);
        BetweenCounts y = Given.network(5, 0, 1, 1, 1, 2, 1);
        x.choose(1, 0);
        y.choose(1, 0);
        long[] got = Given.everything(x);
        long[] want = Given.everything(y);
        DUE.is("told(1) with them", got[1], 5);
        DUE.is("told(1) without them", want[1], 2);
        for (int i = 0; i < want.length; i++) {
            if (i != 1) {
                DUE.is("answer " + i, got[i], want[i]);
            }
        }
        for (int i = want.length; i < got.length; i++) {
            DUE.is("arcBetween of one that is not there", got[i], (i - want.length) % 2);
        }
    }

    /** "(More arcs may lead from one node to one other.)" */
    static void moreArcsOfTheSameNodes() {
        BetweenCounts x = Given.network(2, 0, 1, 3, 0, 1, 3, 0, 1, 4, 1, 0, 5);
        DUE.is("told(1)", x.told(1), 4);
        DUE.is("far(0, 1)", x.far(0, 1), 3);
        DUE.is("ways(0, 1)", x.ways(0, 1), 2);
        DUE.is("told(3)", x.told(3), 2);
        DUE.fraction("resistance", (p, l) -> x.resistance(0, 1, p, l), 1, 15);
    }

    /** "A WAY leads from a node by arcs, each in its direction, to another one". */
    static void eachInItsDirection() {
        BetweenCounts x = Given.network(3, 0, 1, 1, 2, 1, 1);
        DUE.is("far(0, 1)", x.far(0, 1), 1);
        DUE.is("far(1, 0)", x.far(1, 0), NONE);
        DUE.is("far(0, 2)", x.far(0, 2), NONE);
        DUE.is("ways(0, 2)", x.ways(0, 2), 0);
    }

    /** "and goes through no node twice": rings at the beginning, on the way and at the end add none. */
    static void throughNoNodeTwice() {
        BetweenCounts x = Given.network(3, 0, 1, 1, 1, 2, 1, 1, 0, 1, 2, 1, 1, 2, 0, 1);
        DUE.is("far(0, 2)", x.far(0, 2), 2);
        DUE.is("ways(0, 2)", x.ways(0, 2), 1);
        DUE.is("far(0, 0)", x.far(0, 0), 0);
        DUE.is("ways(0, 0)", x.ways(0, 0), 1);
        DUE.is("stress(1)", x.stress(1), 1);
    }

    /** "its length is the sum of the weights": not the number of its arcs. */
    static void theLengthIsTheSumOfTheWeights() {
        BetweenCounts x = Given.chain(5, 6, 7);
        DUE.is("far(0, 3)", x.far(0, 3), 18);
        x.arc(0, 3, 19);
        DUE.is("one longer arc", x.far(0, 3), 18);
        DUE.is("ways(0, 3)", x.ways(0, 3), 1);
        x.arc(0, 3, 18);
        DUE.is("one arc of the same length", x.ways(0, 3), 2);
    }

    /** "The FAR of two nodes is the least length of a way (0 of a node and itself)." */
    static void farIsTheLeastLength() {
        BetweenCounts x = Given.network(3, 0, 1, 9, 0, 2, 3, 2, 1, 3, 1, 0, 2);
        DUE.is("far(0, 1)", x.far(0, 1), 6);
        for (int v = 0; v < 3; v++) {
            DUE.is("of a node and itself", x.far(v, v), 0);
        }
    }

    /** "The LEAST WAYS of two nodes are those of that length; two ways differ when some arc does." */
    static void waysDifferWhenSomeArcDoes() {
        BetweenCounts x = Given.network(3, 0, 1, 1, 0, 1, 1, 1, 2, 1, 0, 2, 3);
        DUE.is("one arc of two differs", x.ways(0, 2), 2);
        DUE.is("stress(1)", x.stress(1), 2);
    }

    /** "Each node is a BEGIN or not, an END or not (both at first)". */
    static void beginAndEndAtFirst() {
        BetweenCounts x = Given.ring(10);
        DUE.is("all pairs", x.told(3), 90);
        for (int v = 0; v < 10; v++) {
            DUE.is("no begin any more", x.choose(v, 1), false);
            DUE.is("no end any more", x.choose(v, 2), false);
        }
        DUE.is("no pairs", x.told(3), 0);
    }

    /** "in the GROUP or not (not at first)". */
    static void notInTheGroupAtFirst() {
        BetweenCounts x = Given.ring(10);
        DUE.is("told(4)", x.told(4), 0);
        for (int v = 0; v < 10; v++) {
            DUE.is("in it now", x.choose(v, 0), true);
        }
        DUE.is("told(4)", x.told(4), 10);
    }

    /** "PAIRS are of a BEGIN s and an END t": in this order. */
    static void pairsAreOfABeginAndAnEnd() {
        BetweenCounts x = Given.chain(1);
        x.choose(0, 2);
        x.choose(1, 1);
        DUE.is("0 is a begin alone, 1 an end alone", x.told(3), 1);
        x.choose(0, 2);
        x.choose(0, 1);
        DUE.is("0 is an end alone", x.told(3), 0);
    }

    /** "another one": a node in a ring is no pair with itself. */
    static void pairsAreOfAnotherOne() {
        DUE.is("told(3) of two", Given.ring(2).told(3), 2);
        DUE.is("told(3) of one", Given.nodes(1).told(3), 0);
        BetweenCounts x = Given.ring(2);
        x.choose(0, 1);
        x.choose(0, 2);
        DUE.is("told(3) of 1 alone", x.told(3), 0);
    }

    /** "to which a way leads from s". */
    static void pairsHaveAWay() {
        DUE.is("told(3)", Given.network(4, 0, 1, 1, 2, 1, 1, 1, 3, 0).told(3), 2);
    }

    /** "CURRENT flows by the arcs that are there, in both directions alike". */
    static void currentFlowsInBothDirections() {
        BetweenCounts x = Given.network(3, 0, 1, 1, 2, 1, 1, 0, 2, 0);
        DUE.fraction("0 to 2", (p, l) -> x.resistance(0, 2, p, l), 2, 1);
        DUE.fraction("2 to 0", (p, l) -> x.resistance(2, 0, p, l), 2, 1);
        DUE.fraction("at 1", (p, l) -> x.carried(1, p, l), 1, 1);
    }

    /** "a weight being what an arc conducts": not what it resists. */
    static void aWeightIsWhatAnArcConducts() {
        BetweenCounts x = Given.network(2, 0, 1, 3, 0, 1, 4);
        DUE.fraction("side by side", (p, l) -> x.resistance(0, 1, p, l), 1, 7);
        BetweenCounts y = Given.chain(3, 4);
        DUE.fraction("in a row", (p, l) -> y.resistance(0, 2, p, l), 7, 12);
    }

    /** "a PIECE is nodes that hang together by them, whatever their directions". */
    static void aPieceHangsTogether() {
        BetweenCounts x = Given.network(6, 0, 1, 1, 2, 1, 1, 2, 3, 1, 4, 5, 0);
        DUE.is("told(5)", x.told(5), 3);
        DUE.is("0 and 3 are of one", x.resistance(0, 3, 0, 0), 3);
        DUE.is("4 and 5 are not", x.resistance(4, 5, 0, 0), NONE);
        x.change(3, 1);
        DUE.is("told(5) with the arc there", x.told(5), 2);
    }

    /** "at each node but s and t as much goes in as out": a bridge that is not in balance. */
    static void asMuchGoesInAsOut() {
        BetweenCounts x = Given.network(4, 0, 1, 1, 0, 2, 2, 1, 3, 2, 2, 3, 1, 1, 2, 1);
        DUE.fraction("0 to 3", (p, l) -> x.resistance(0, 3, p, l), 5, 7);
        DUE.fraction("1 to 2", (p, l) -> x.resistance(1, 2, p, l), 3, 7);
    }

    /** What a call answers does not hang on what was asked before: the same in two orders. */
    static void askingChangesNothing() {
        BetweenCounts x = Given.diamond();
        x.choose(3, 0);
        for (int turn = 0; turn < 3; turn++) {
            DUE.is("arcBetween(0)", x.arcBetween(0, 0, 0), 2);
            DUE.is("arcBetween(2)", x.arcBetween(2, 0, 0), 3);
            DUE.is("group", x.group(0, 0), 3);
            DUE.is("harmonic", x.harmonic(0, 1, 0), 6);
            DUE.is("close", x.close(0, 1, 0), 7);
            DUE.is("resistance", x.resistance(0, 1, 1, 0), 4);
            DUE.is("carried", x.carried(3, 0, 0), 4);
            DUE.is("between", x.between(3, 0, 0), 3);
            DUE.is("another resistance", x.resistance(3, 4, 1, 0), 1);
        }
        BetweenCounts y = Given.diamond();
        y.choose(3, 0);
        DUE.alike("after asking", x, y);
    }

    public static void main(String[] args) throws Exception {
        DUE.runAll(TermsTest.class);
    }
}
