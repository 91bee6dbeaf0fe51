/** Promise 2, node: "A node comes: its number. NONE: there are 10." */
public final class Promise02NodeTest {
    private static final Due DUE = new Due("Promise 2, node");
    private static final int NONE = Due.NONE;

    /** "A node comes: its number." */
    static void itsNumber() {
        BetweenCounts x = new BetweenCounts();
        for (int v = 0; v < 10; v++) {
            DUE.is("node()", x.node(), v);
            DUE.is("told(0)", x.told(0), v + 1);
            DUE.is("it is one", x.far(v, v), 0);
            DUE.is("the next one is none yet", x.far(v + 1, v + 1), NONE);
        }
    }

    /** "NONE: there are 10." */
    static void theEleventhIsRefused() {
        BetweenCounts x = Given.nodes(9);
        DUE.is("the tenth", x.node(), 9);
        DUE.is("the eleventh", x.node(), NONE);
        DUE.is("the twelfth", x.node(), NONE);
        DUE.is("told(0)", x.told(0), 10);
        DUE.is("far(10, 10)", x.far(10, 10), NONE);
        DUE.is("arc to the eleventh", x.arc(0, 10, 1), NONE);
    }

    static void aRefusedOneChangesNothing() {
        BetweenCounts x = Given.full();
        x.choose(3, 0);
        BetweenCounts y = Given.full();
        y.choose(3, 0);
        DUE.is("the eleventh", x.node(), NONE);
        DUE.alike("after the eleventh", x, y);
    }

    /** "both at first", "not at first": of a node that comes when others have been chosen. */
    static void aLaterOneIsBeginAndEndAndNotOfTheGroup() {
        BetweenCounts x = Given.nodes(1);
        x.choose(0, 0);
        x.choose(0, 1);
        x.choose(0, 2);
        DUE.is("node()", x.node(), 1);
        DUE.is("told(4)", x.told(4), 1);
        DUE.is("node()", x.node(), 2);
        x.arc(1, 2, 1);
        x.arc(2, 1, 1);
        DUE.is("told(3)", x.told(3), 2);
    }

    /** It is seen by all that was asked before it came. */
    static void aLaterOneIsSeenByEveryCall() {
        BetweenCounts x = Given.chain(1, 1);
        Given.everything(x);
        DUE.is("node()", x.node(), 3);
        DUE.is("far(0, 3)", x.far(0, 3), NONE);
        DUE.is("ways(0, 3)", x.ways(0, 3), 0);
        DUE.is("stress(3)", x.stress(3), 0);
        DUE.is("top(3)", x.top(3), 3);
        DUE.is("told(5)", x.told(5), 2);
        DUE.fraction("between", (p, l) -> x.between(3, p, l), 0, 1);
        DUE.fraction("harmonic", (p, l) -> x.harmonic(3, p, l), 0, 1);
        DUE.fraction("close", (p, l) -> x.close(3, p, l), 0, 1);
        DUE.fraction("carried", (p, l) -> x.carried(3, p, l), 0, 1);
        DUE.fraction("resistance", (p, l) -> x.resistance(3, 3, p, l), 0, 1);
        DUE.isNone("resistance to it", (p, l) -> x.resistance(0, 3, p, l));
    }

    public static void main(String[] args) throws Exception {
        DUE.runAll(Promise02NodeTest.class);
    }
}
