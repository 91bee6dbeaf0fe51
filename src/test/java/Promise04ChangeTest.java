/**
 * Promise 4, change: "An arc gets another weight: what it had. NONE: no such arc, a weight that is
 * none."
 */
public final class Promise04ChangeTest {
    private static final Due DUE = new Due("Promise 4, change");
    private static final int NONE = Due.NONE;
    private static final int LOW = Due.LOW;
    private static final int HIGH = Due.HIGH;

    /** "An arc gets another weight: what it had." */
    static void whatItHad() {
        BetweenCounts x = Given.network(3, 0, 1, 4, 1, 2, 6);
        DUE.is("change(0, 5)", x.change(0, 5), 4);
        DUE.is("far(0, 1)", x.far(0, 1), 5);
        DUE.is("the other arc's", x.far(1, 2), 6);
        DUE.is("change(0, 9)", x.change(0, 9), 5);
        DUE.is("change(1, 8)", x.change(1, 8), 6);
        DUE.is("far(0, 2)", x.far(0, 2), 17);
    }

    static void theSameWeightAgain() {
        BetweenCounts x = Given.network(2, 0, 1, 4);
        DUE.is("change(0, 4)", x.change(0, 4), 4);
        DUE.is("change(0, 4) again", x.change(0, 4), 4);
        DUE.is("far(0, 1)", x.far(0, 1), 4);
    }

    /** "a WEIGHT 0 .. 1000": the least and the greatest one. */
    static void theLeastAndTheGreatestWeight() {
        BetweenCounts x = Given.network(2, 0, 1, 4);
        DUE.is("to 1000", x.change(0, 1000), 4);
        DUE.is("far(0, 1) by 1000", x.far(0, 1), 1000);
        DUE.is("to 1", x.change(0, 1), 1000);
        DUE.is("far(0, 1) by 1", x.far(0, 1), 1);
        DUE.is("to 0", x.change(0, 0), 1);
        DUE.is("from 0", x.change(0, 7), 0);
    }

    /** "with 0 it is not there": it stays an arc, and may come back. */
    static void withZeroItIsNotThere() {
        BetweenCounts x = Given.network(2, 0, 1, 4);
        x.change(0, 0);
        DUE.is("far(0, 1)", x.far(0, 1), NONE);
        DUE.is("told(1)", x.told(1), 1);
        DUE.is("told(2)", x.told(2), 0);
        DUE.is("another arc's number", x.arc(1, 0, 3), 1);
        DUE.is("back again", x.change(0, 5), 0);
        DUE.is("far(0, 1) again", x.far(0, 1), 5);
        DUE.is("told(2) again", x.told(2), 2);
    }

    /** "NONE: no such arc". */
    static void noSuchArc() {
        BetweenCounts x = Given.network(3, 0, 1, 4, 1, 2, 6);
        int[] wrong = {-1, 2, 29, 30, 31, LOW, HIGH};
        for (int a : wrong) {
            DUE.is("change(" + a + ", 1)", x.change(a, 1), NONE);
        }
        DUE.is("the last arc is one", x.change(1, 1), 6);
        DUE.is("without arcs", Given.nodes(2).change(0, 1), NONE);
        DUE.is("without nodes", new BetweenCounts().change(0, 1), NONE);
    }

    static void noSuchArcAmongThirty() {
        BetweenCounts x = Given.full();
        DUE.is("change(30, 1)", x.change(30, 1), NONE);
        DUE.is("change(29, 1)", x.change(29, 1), 1000);
    }

    /** "NONE: .. a weight that is none". */
    static void aWeightThatIsNone() {
        BetweenCounts x = Given.network(2, 0, 1, 4);
        int[] wrong = {-1, 1001, LOW, HIGH, -4, 1002};
        for (int weight : wrong) {
            DUE.is("change(0, " + weight + ")", x.change(0, weight), NONE);
            DUE.is("far(0, 1) after it", x.far(0, 1), 4);
        }
        DUE.is("what it had", x.change(0, 4), 4);
    }

    static void aRefusedOneChangesNothing() {
        BetweenCounts x = Given.diamond();
        x.change(5, 9);
        x.change(-1, 9);
        x.change(0, -1);
        x.change(4, 1001);
        DUE.alike("after wrong ones", x, Given.diamond());
    }

    /** It is seen by all that was asked before it. */
    static void itIsSeenByEveryCall() {
        BetweenCounts x = Given.diamond();
        x.choose(1, 0);
        Given.everything(x);
        x.change(0, 3);
        BetweenCounts y = Given.network(5, 0, 1, 3, 0, 2, 1, 1, 3, 1, 2, 3, 1, 3, 4, 1);
        y.choose(1, 0);
        DUE.alike("with it", x, y);
    }

    /** Each kind of fraction asked just before it and just after it. */
    static void itIsSeenByTheFractionThatWasAskedLast() {
        BetweenCounts x = Given.network(3, 0, 1, 2, 1, 2, 2, 0, 2, 5);
        x.choose(1, 0);
        DUE.fraction("between before", (p, l) -> x.between(1, p, l), 1, 1);
        x.change(2, 3);
        DUE.fraction("between after", (p, l) -> x.between(1, p, l), 0, 1);
        DUE.fraction("arcBetween before", (p, l) -> x.arcBetween(2, p, l), 1, 1);
        x.change(2, 4);
        DUE.fraction("arcBetween after", (p, l) -> x.arcBetween(2, p, l), 1, 2);
        DUE.fraction("group before", x::group, 1, 2);
        x.change(2, 5);
        DUE.fraction("group after", x::group, 1, 1);
        DUE.fraction("harmonic before", (p, l) -> x.harmonic(0, p, l), 3, 4);
        x.change(2, 3);
        DUE.fraction("harmonic after", (p, l) -> x.harmonic(0, p, l), 5, 6);
        DUE.fraction("close before", (p, l) -> x.close(0, p, l), 2, 5);
        x.change(0, 1);
        DUE.fraction("close after", (p, l) -> x.close(0, p, l), 1, 2);
        DUE.fraction("resistance before", (p, l) -> x.resistance(0, 2, p, l), 3, 11);
        x.change(2, 4);
        DUE.fraction("resistance after", (p, l) -> x.resistance(0, 2, p, l), 3, 14);
        DUE.fraction("carried before", (p, l) -> x.carried(1, p, l), 1, 7);
        x.change(2, 0);
        DUE.fraction("carried after", (p, l) -> x.carried(1, p, l), 1, 1);
    }

    public static void main(String[] args) throws Exception {
        DUE.runAll(Promise04ChangeTest.class);
    }
}
