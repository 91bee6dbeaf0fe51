/**
 * Promise 8, stress: "How many LEAST WAYS of all PAIRS go through a node that is neither their first
 * nor their last one. NONE: no such node."
 */
public final class Promise08StressTest {
    private static final Due DUE = new Due("Promise 8, stress");
    private static final int NONE = Due.NONE;
    private static final int LOW = Due.LOW;
    private static final int HIGH = Due.HIGH;

    /** "How many LEAST WAYS of all PAIRS go through a node": ways are counted, not shares. */
    static void howMany() {
        BetweenCounts x = Given.diamond();
        x.arc(3, 4, 1);
        DUE.is("0 to 4 four ways, 1 to 4 and 2 to 4 two", x.stress(3), 8);
        DUE.is("0 to 3 one way, 0 to 4 two", x.stress(1), 3);
        x.arc(0, 4, 3);
        DUE.is("a least way past it is none of its", x.stress(3), 8);
        x.arc(0, 4, 2);
        DUE.is("a shorter way past it", x.stress(3), 4);
    }

    /** "neither their first nor their last one". */
    static void neitherTheFirstNorTheLast() {
        BetweenCounts x = Given.chain(1, 1);
        DUE.is("the first", x.stress(0), 0);
        DUE.is("the one between", x.stress(1), 1);
        DUE.is("the last", x.stress(2), 0);
        BetweenCounts y = Given.ring(3);
        for (int v = 0; v < 3; v++) {
            DUE.is("each is once between in a ring", y.stress(v), 1);
        }
    }

    /** "of all PAIRS": of a BEGIN and an END. */
    static void ofPairsAlone() {
        BetweenCounts x = Given.diamond();
        x.choose(0, 1);
        DUE.is("0 is no begin", x.stress(3), 2);
        x.choose(0, 1);
        x.choose(4, 2);
        DUE.is("4 is no end", x.stress(3), 0);
        DUE.is("4 is no end, at 1", x.stress(1), 1);
    }

    /** The node between need be neither. */
    static void theNodeBetweenMayBeNeither() {
        BetweenCounts x = Given.chain(1, 1);
        x.choose(1, 1);
        x.choose(1, 2);
        DUE.is("stress(1)", x.stress(1), 1);
        x.choose(1, 0);
        DUE.is("of the group", x.stress(1), 1);
    }

    static void withoutPairs() {
        DUE.is("alone", Given.nodes(1).stress(0), 0);
        DUE.is("apart", Given.nodes(10).stress(9), 0);
        BetweenCounts x = Given.chain(1, 1);
        x.change(1, 0);
        DUE.is("an arc that is not there", x.stress(1), 0);
    }

    /** "NONE: no such node." */
    static void noSuchNode() {
        BetweenCounts x = Given.chain(1, 1);
        int[] wrong = {-1, 3, 9, 10, LOW, HIGH};
        for (int v : wrong) {
            DUE.is("stress(" + v + ")", x.stress(v), NONE);
        }
        DUE.is("without nodes", new BetweenCounts().stress(0), NONE);
        DUE.is("the eleventh of ten", Given.nodes(10).stress(10), NONE);
    }

    /** Nine steps that share 30 arcs. */
    static void theMost() {
        BetweenCounts x = Given.full();
        for (int v = 0; v < 10; v++) {
            long before = 0;
            long product = 1;
            for (int step = v - 1; step >= 0; step--) {
                product *= Given.arcsOfFull(step);
                before += product;
            }
            long after = 0;
            product = 1;
            for (int step = v; step < 9; step++) {
                product *= Given.arcsOfFull(step);
                after += product;
            }
            DUE.is("stress(" + v + ")", x.stress(v), before * after);
        }
    }

    public static void main(String[] args) throws Exception {
        DUE.runAll(Promise08StressTest.class);
    }
}
