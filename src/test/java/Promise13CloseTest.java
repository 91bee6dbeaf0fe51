/**
 * Promise 13, close: "A FRACTION: how many ENDS but itself there are to which a way leads from a node,
 * by the sum of their FARS (0 / 1: none)."
 */
public final class Promise13CloseTest {
    private static final Due DUE = new Due("Promise 13, close");

    /** 0 leads to 1 (far 2), 2 (far 3) and 3 (far 5); 4 is apart. */
    private static BetweenCounts tree() {
        return Given.network(5, 0, 1, 2, 1, 2, 1, 0, 3, 5);
    }

    private static void due(BetweenCounts x, int node, long above, long below) {
        DUE.fraction("close(" + node + ")", (p, l) -> x.close(node, p, l), above, below);
    }

    /** "how many .. by the sum of their FARS". */
    static void howManyByTheSum() {
        due(tree(), 0, 3, 10);
        due(tree(), 1, 1, 1);
        BetweenCounts x = tree();
        x.arc(0, 3, 4);
        due(x, 0, 1, 3);
    }

    /** "from a node": not to it. */
    static void fromTheNode() {
        BetweenCounts x = Given.network(2, 0, 1, 3, 1, 0, 7);
        due(x, 0, 1, 3);
        due(x, 1, 1, 7);
    }

    /** "how many ENDS". */
    static void endsAlone() {
        BetweenCounts x = tree();
        x.choose(3, 2);
        due(x, 0, 2, 5);
        x.choose(1, 2);
        due(x, 0, 1, 3);
    }

    /** "but itself": whether it is an END or not. */
    static void butItself() {
        BetweenCounts x = Given.network(2, 0, 1, 3, 1, 0, 7);
        x.choose(0, 2);
        due(x, 0, 1, 3);
        x.choose(1, 2);
        due(x, 0, 0, 1);
    }

    /** Of a BEGIN nothing is said: the node need be none. */
    static void theNodeNeedBeNoBegin() {
        BetweenCounts x = tree();
        x.choose(0, 1);
        due(x, 0, 3, 10);
    }

    /** "to which a way leads": others are not counted, and have no FAR. */
    static void toWhichAWayLeads() {
        BetweenCounts x = Given.network(4, 0, 1, 4, 1, 2, 0, 3, 0, 1);
        due(x, 0, 1, 4);
        due(x, 3, 1, 3);
    }

    /** "(0 / 1: none)". */
    static void none() {
        due(tree(), 2, 0, 1);
        due(tree(), 4, 0, 1);
        due(Given.nodes(1), 0, 0, 1);
        due(Given.network(2, 0, 1, 0), 0, 0, 1);
        BetweenCounts x = Given.chain(1, 1);
        x.choose(1, 2);
        x.choose(2, 2);
        due(x, 0, 0, 1);
    }

    /** Nine at far 1, one at far 9000, and nine from 1000 to 9000. */
    static void theGreatestAndTheLeast() {
        BetweenCounts x = Given.nodes(10);
        for (int v = 0; v < 9; v++) {
            x.arc(9, v, 1);
        }
        due(x, 9, 1, 1);
        BetweenCounts y = Given.longChain(1000);
        due(y, 0, 1, 5000);
        for (int v = 1; v < 9; v++) {
            y.choose(v, 2);
        }
        due(y, 0, 1, 9000);
    }

    /** "NONE: no such node". */
    static void noSuchNode() {
        DUE.hasNoOtherNode(BetweenCounts::close);
    }

    /** "NONE: .. another part": also where the fraction is 0 / 1. */
    static void anotherPart() {
        BetweenCounts x = tree();
        DUE.hasNoOtherPart((p, l) -> x.close(0, p, l));
        DUE.hasNoOtherPart((p, l) -> x.close(4, p, l));
    }

    /** "NONE: .. a limb below 0": also where the fraction is 0 / 1. */
    static void aLimbBelow0() {
        BetweenCounts x = tree();
        DUE.hasNoLimbBelow0((p, l) -> x.close(0, p, l));
        DUE.hasNoLimbBelow0((p, l) -> x.close(4, p, l));
    }

    /** "0 beyond its highest one". */
    static void beyondTheHighestLimb() {
        BetweenCounts x = tree();
        DUE.isZeroBeyondLimb0((p, l) -> x.close(0, p, l));
        DUE.isZeroBeyondLimb0((p, l) -> x.close(4, p, l));
    }

    public static void main(String[] args) throws Exception {
        DUE.runAll(Promise13CloseTest.class);
    }
}
