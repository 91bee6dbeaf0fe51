/**
 * Promise 3, arc: "An arc comes: its number. NONE: no such nodes, both the same, a weight that is
 * none, there are 30."
 */
public final class Promise03ArcTest {
    private static final Due DUE = new Due("Promise 3, arc");
    private static final int NONE = Due.NONE;
    private static final int LOW = Due.LOW;
    private static final int HIGH = Due.HIGH;

    private static void refused(BetweenCounts x, int from, int to, int weight) {
        int arcs = x.told(1);
        DUE.is("arc(" + from + ", " + to + ", " + weight + ")", x.arc(from, to, weight), NONE);
        DUE.is("told(1) after it", x.told(1), arcs);
    }

    /** "An arc comes: its number." */
    static void itsNumber() {
        BetweenCounts x = Given.nodes(3);
        for (int a = 0; a < 30; a++) {
            DUE.is("arc", x.arc(a % 3, (a + 1) % 3, a), a);
            DUE.is("told(1)", x.told(1), a + 1);
            DUE.is("its weight", x.change(a, a), a);
            DUE.is("the next one is none yet", x.change(a + 1, 1), NONE);
        }
    }

    /** "NONE: no such nodes". */
    static void noSuchNodes() {
        BetweenCounts x = Given.nodes(3);
        int[] wrong = {-1, 3, 9, 10, LOW, HIGH};
        for (int v : wrong) {
            refused(x, v, 0, 1);
            refused(x, 2, v, 1);
            refused(x, v, v, 1);
        }
        DUE.is("the last node is one", x.arc(2, 0, 1), 0);
        DUE.is("the first node is one", x.arc(0, 2, 1), 1);
    }

    static void noSuchNodesAmongTen() {
        BetweenCounts x = Given.nodes(10);
        refused(x, 10, 0, 1);
        refused(x, 0, 10, 1);
        DUE.is("the tenth node is one", x.arc(9, 0, 1), 0);
    }

    static void noNodesAtAll() {
        refused(new BetweenCounts(), 0, 1, 1);
        refused(new BetweenCounts(), 0, 0, 1);
        refused(Given.nodes(1), 0, 1, 1);
        refused(Given.nodes(1), 1, 0, 1);
    }

    /** "NONE: .. both the same". */
    static void bothTheSame() {
        BetweenCounts x = Given.nodes(3);
        for (int v = 0; v < 3; v++) {
            refused(x, v, v, 1);
            refused(x, v, v, 0);
        }
    }

    /** "NONE: .. a weight that is none". */
    static void aWeightThatIsNone() {
        BetweenCounts x = Given.nodes(2);
        int[] wrong = {-1, 1001, LOW, HIGH, -1000, 1002};
        for (int weight : wrong) {
            refused(x, 0, 1, weight);
        }
    }

    /** "a WEIGHT 0 .. 1000": the least and the greatest one. */
    static void theLeastAndTheGreatestWeight() {
        BetweenCounts x = Given.nodes(2);
        DUE.is("weight 0", x.arc(0, 1, 0), 0);
        DUE.is("it is not there", x.far(0, 1), NONE);
        DUE.is("weight 1000", x.arc(0, 1, 1000), 1);
        DUE.is("it is there", x.far(0, 1), 1000);
        DUE.is("weight 999", x.arc(0, 1, 999), 2);
        DUE.is("weight 1", x.arc(0, 1, 1), 3);
        DUE.is("the least that is there", x.far(0, 1), 1);
    }

    /** "NONE: .. there are 30": also when some of them are not there. */
    static void theThirtyFirstIsRefused() {
        BetweenCounts x = Given.nodes(2);
        for (int a = 0; a < 29; a++) {
            x.arc(0, 1, a % 2);
        }
        DUE.is("the thirtieth", x.arc(1, 0, 0), 29);
        refused(x, 0, 1, 1);
        refused(x, 0, 1, 0);
        DUE.is("told(1)", x.told(1), 30);
        DUE.is("told(2)", x.told(2), 14);
        x.change(29, 0);
        refused(x, 0, 1, 1);
    }

    static void aRefusedOneChangesNothing() {
        BetweenCounts x = Given.full();
        x.arc(0, 9, 1);
        DUE.alike("after the thirty-first", x, Given.full());
        BetweenCounts y = Given.diamond();
        y.arc(0, 0, 1);
        y.arc(0, 5, 1);
        y.arc(-1, 3, 1);
        y.arc(0, 3, 1001);
        y.arc(0, 3, -1);
        DUE.alike("after wrong ones", y, Given.diamond());
        DUE.is("no number was used up", y.arc(0, 3, 1), 5);
    }

    /** It is seen by all that was asked before it came. */
    static void aLaterOneIsSeenByEveryCall() {
        BetweenCounts x = Given.network(5, 0, 1, 1, 0, 2, 1, 1, 3, 1, 2, 3, 1);
        x.choose(3, 0);
        Given.everything(x);
        DUE.is("arc", x.arc(3, 4, 1), 4);
        BetweenCounts y = Given.diamond();
        y.choose(3, 0);
        DUE.alike("with it", x, y);
    }

    public static void main(String[] args) throws Exception {
        DUE.runAll(Promise03ArcTest.class);
    }
}
