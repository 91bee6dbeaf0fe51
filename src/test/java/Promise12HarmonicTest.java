/**
 * Promise 12, harmonic: "A FRACTION: 1 by the FAR from a node, for all ENDS but itself to which a way
 * leads, added."
 */
public final class Promise12HarmonicTest {
    private static final Due DUE = new Due("Promise 12, harmonic");

    /** 0 leads to 1 (far 2), 2 (far 3) and 3 (far 4); 4 is apart. */
    private static BetweenCounts tree() {
        return Given.network(5, 0, 1, 2, 1, 2, 1, 0, 3, 4);
    }

    private static void due(BetweenCounts x, int node, long above, long below) {
        DUE.fraction("harmonic(" + node + ")", (p, l) -> x.harmonic(node, p, l), above, below);
    }

    /** "1 by the FAR from a node .. added". */
    static void oneByEachFarAdded() {
        due(tree(), 0, 13, 12);
        due(tree(), 1, 1, 1);
        BetweenCounts x = tree();
        x.arc(0, 1, 2);
        due(x, 0, 13, 12);
        x.arc(0, 1, 1);
        due(x, 0, 7, 4);
    }

    /** "from a node": not to it. */
    static void fromTheNode() {
        BetweenCounts x = Given.network(2, 0, 1, 3, 1, 0, 7);
        due(x, 0, 1, 3);
        due(x, 1, 1, 7);
    }

    /** "for all ENDS". */
    static void forEndsAlone() {
        BetweenCounts x = tree();
        x.choose(3, 2);
        due(x, 0, 5, 6);
        x.choose(1, 2);
        due(x, 0, 1, 3);
        x.choose(2, 2);
        due(x, 0, 0, 1);
    }

    /** "but itself": whether it is an END or not. */
    static void butItself() {
        BetweenCounts x = Given.ring(2);
        due(x, 0, 1, 1);
        x.choose(0, 2);
        due(x, 0, 1, 1);
        x.choose(1, 2);
        due(x, 0, 0, 1);
    }

    /** Of a BEGIN nothing is said: the node need be none. */
    static void theNodeNeedBeNoBegin() {
        BetweenCounts x = tree();
        x.choose(0, 1);
        due(x, 0, 13, 12);
    }

    /** "to which a way leads": others do not count; "0 as 0 / 1" when there is none. */
    static void toWhichAWayLeads() {
        due(tree(), 2, 0, 1);
        due(tree(), 3, 0, 1);
        due(tree(), 4, 0, 1);
        due(Given.nodes(1), 0, 0, 1);
        due(Given.network(2, 0, 1, 0), 0, 0, 1);
    }

    /** Nine at far 1, one at far 9000, and nine from 1000 to 9000. */
    static void theGreatestAndTheLeast() {
        BetweenCounts x = Given.nodes(10);
        for (int v = 0; v < 9; v++) {
            x.arc(9, v, 1);
        }
        due(x, 9, 9, 1);
        BetweenCounts y = Given.longChain(1000);
        due(y, 0, 7129, 2520000);
        for (int v = 1; v < 9; v++) {
            y.choose(v, 2);
        }
        due(y, 0, 1, 9000);
    }

    /** "NONE: no such node". */
    static void noSuchNode() {
        DUE.hasNoOtherNode(BetweenCounts::harmonic);
    }

    /** "NONE: .. another part". */
    static void anotherPart() {
        BetweenCounts x = tree();
        DUE.hasNoOtherPart((p, l) -> x.harmonic(0, p, l));
        DUE.hasNoOtherPart((p, l) -> x.harmonic(4, p, l));
    }

    /** "NONE: .. a limb below 0". */
    static void aLimbBelow0() {
        BetweenCounts x = tree();
        DUE.hasNoLimbBelow0((p, l) -> x.harmonic(0, p, l));
        DUE.hasNoLimbBelow0((p, l) -> x.harmonic(4, p, l));
    }

    /** "0 beyond its highest one". */
    static void beyondTheHighestLimb() {
        BetweenCounts x = tree();
        DUE.isZeroBeyondLimb0((p, l) -> x.harmonic(0, p, l));
        DUE.isZeroBeyondLimb0((p, l) -> x.harmonic(4, p, l));
    }

    public static void main(String[] args) throws Exception {
        DUE.runAll(Promise12HarmonicTest.class);
    }
}
