/**
 * Promise 11, group: "A FRACTION: for all PAIRS without nodes of the GROUP the LEAST WAYS that go
 * through any of its nodes, by all LEAST WAYS of the PAIR, added."
 */
public final class Promise11GroupTest {
    private static final Due DUE = new Due("Promise 11, group");

    private static BetweenCounts with(BetweenCounts x, int... members) {
        for (int v : members) {
            x.choose(v, 0);
        }
        return x;
    }

    private static void due(String what, BetweenCounts x, long above, long below) {
        DUE.fraction(what, x::group, above, below);
    }

    /** "the LEAST WAYS that go through .. its nodes, by all LEAST WAYS of the PAIR, added". */
    static void sharesAdded() {
        due("1 is on half of two pairs", with(Given.diamond(), 1), 1, 1);
        due("3 is on all of three pairs", with(Given.diamond(), 3), 3, 1);
        BetweenCounts x = with(Given.diamond(), 1);
        x.arc(0, 1, 1);
        due("1 is on two thirds of two pairs", x, 4, 3);
    }

    /** "through any of its nodes": a way through more of them is one way. */
    static void aWayThroughMoreOfThemIsCountedOnce() {
        due("1 and 3", with(Given.diamond(), 1, 3), 2, 1);
        due("two in a row", with(Given.chain(1, 1, 1), 1, 2), 1, 1);
        due("side by side", with(Given.diamond(), 1, 2), 2, 1);
    }

    /** "for all PAIRS without nodes of the GROUP": neither first nor last. */
    static void pairsWithoutNodesOfTheGroup() {
        due("0 is of it, and first", with(Given.diamond(), 0, 3), 2, 1);
        due("4 is of it, and last", with(Given.diamond(), 4, 3), 0, 1);
        due("at the ends alone", with(Given.chain(1, 1), 0), 0, 1);
        due("at the other end alone", with(Given.chain(1, 1), 2), 0, 1);
    }

    /** "PAIRS are of a BEGIN s and an END t". */
    static void ofPairsAlone() {
        BetweenCounts x = with(Given.diamond(), 3);
        x.choose(1, 1);
        due("1 is no begin", x, 2, 1);
        x.choose(4, 2);
        due("4 is no end", x, 0, 1);
        BetweenCounts y = with(Given.diamond(), 3);
        y.choose(3, 1);
        y.choose(3, 2);
        due("what its own node is, is all the same", y, 3, 1);
    }

    /** A way past the group that is longer is none of the LEAST WAYS. */
    static void aLongerWayPastItIsNoLeastWay() {
        BetweenCounts x = with(Given.network(4, 0, 1, 1, 1, 3, 1, 0, 2, 2, 2, 3, 2), 1);
        due("all by the group", x, 1, 1);
        x.arc(0, 3, 2);
        due("one of two", x, 1, 2);
        x.arc(0, 3, 1);
        due("none is by the group", x, 0, 1);
    }

    /** The GROUP is empty at first. */
    static void anEmptyGroup() {
        due("without nodes", new BetweenCounts(), 0, 1);
        due("nobody", Given.diamond(), 0, 1);
        due("nobody any more", with(Given.diamond(), 3, 3), 0, 1);
    }

    /** All nodes are of it, or all but one. */
    static void aFullGroup() {
        due("all", with(Given.diamond(), 0, 1, 2, 3, 4), 0, 1);
        due("all but one", with(Given.diamond(), 1, 2, 3, 4), 0, 1);
        due("all but two", with(Given.diamond(), 1, 2, 3), 1, 1);
        due("all of ten but the first and the last", with(Given.full(), 1, 2, 3, 4, 5, 6, 7, 8), 1, 1);
    }

    /** "NONE: .. another part": also of an empty group and without nodes. */
    static void anotherPart() {
        BetweenCounts x = with(Given.diamond(), 3);
        DUE.hasNoOtherPart(x::group);
        DUE.hasNoOtherPart(new BetweenCounts()::group);
    }

    /** "NONE: .. a limb below 0": also of an empty group and without nodes. */
    static void aLimbBelow0() {
        BetweenCounts x = with(Given.diamond(), 3);
        DUE.hasNoLimbBelow0(x::group);
        DUE.hasNoLimbBelow0(new BetweenCounts()::group);
    }

    /** "0 beyond its highest one". */
    static void beyondTheHighestLimb() {
        BetweenCounts x = with(Given.diamond(), 3);
        DUE.isZeroBeyondLimb0(x::group);
        DUE.isZeroBeyondLimb0(new BetweenCounts()::group);
    }

    public static void main(String[] args) throws Exception {
        DUE.runAll(Promise11GroupTest.class);
    }
}
