/**
 * Promise 5, choose: "A node becomes one of the GROUP (what = 0), a BEGIN (1), an END (2), or, if it
 * is one, none any more: whether it is one now. False: no such node, another what (nothing is done)."
 */
public final class Promise05ChooseTest {
    private static final Due DUE = new Due("Promise 5, choose");
    private static final int LOW = Due.LOW;
    private static final int HIGH = Due.HIGH;

    /** "A node becomes one of the GROUP (what = 0)". */
    static void oneOfTheGroup() {
        BetweenCounts x = Given.chain(1, 1);
        DUE.is("choose(1, 0)", x.choose(1, 0), true);
        DUE.is("told(4)", x.told(4), 1);
        DUE.fraction("group", x::group, 1, 1);
        DUE.is("told(3) is as before", x.told(3), 3);
    }

    /** "a BEGIN (1) .. or, if it is one, none any more". */
    static void aBegin() {
        BetweenCounts x = Given.chain(1, 1);
        DUE.is("choose(0, 1)", x.choose(0, 1), false);
        DUE.is("told(3) without 0 to 1 and 0 to 2", x.told(3), 1);
        DUE.is("choose(0, 1) again", x.choose(0, 1), true);
        DUE.is("told(3) again", x.told(3), 3);
        DUE.is("told(4) is as before", x.told(4), 0);
    }

    /** "an END (2) .. or, if it is one, none any more". */
    static void anEnd() {
        BetweenCounts x = Given.chain(1, 1, 1);
        DUE.is("choose(1, 2)", x.choose(1, 2), false);
        DUE.is("told(3) without 0 to 1", x.told(3), 5);
        DUE.is("choose(3, 2)", x.choose(3, 2), false);
        DUE.is("told(3) without what leads to 3", x.told(3), 2);
        DUE.is("choose(3, 2) again", x.choose(3, 2), true);
        DUE.is("told(3) again", x.told(3), 5);
        DUE.is("told(4) is as before", x.told(4), 0);
    }

    /** "whether it is one now": turn by turn, each of the three for itself. */
    static void whetherItIsOneNow() {
        BetweenCounts x = Given.nodes(10);
        for (int v = 0; v < 10; v++) {
            boolean[] now = {false, true, true};
            for (int turn = 0; turn < 12; turn++) {
                int what = turn * 2 % 3;
                now[what] = !now[what];
                DUE.is("choose(" + v + ", " + what + ")", x.choose(v, what), now[what]);
            }
        }
    }

    /** "False: no such node .. (nothing is done)." */
    static void noSuchNode() {
        BetweenCounts x = Given.diamond();
        int[] wrong = {-1, 5, 9, 10, LOW, HIGH};
        for (int v : wrong) {
            for (int what = 0; what < 3; what++) {
                DUE.is("choose(" + v + ", " + what + ")", x.choose(v, what), false);
            }
        }
        DUE.alike("after wrong ones", x, Given.diamond());
        DUE.is("without nodes", new BetweenCounts().choose(0, 0), false);
        DUE.is("the eleventh of ten", Given.nodes(10).choose(10, 0), false);
        DUE.is("the tenth of ten", Given.nodes(10).choose(9, 0), true);
    }

    /** "(nothing is done)": also not with the node that comes later. */
    static void noSuchNodeYet() {
        BetweenCounts x = Given.nodes(1);
        for (int what = 0; what < 3; what++) {
            DUE.is("choose(1, " + what + ")", x.choose(1, what), false);
        }
        x.node();
        x.arc(0, 1, 1);
        x.arc(1, 0, 1);
        DUE.is("told(3)", x.told(3), 2);
        DUE.is("told(4)", x.told(4), 0);
    }

    /** "False: .. another what (nothing is done)." */
    static void anotherWhat() {
        BetweenCounts x = Given.diamond();
        int[] wrong = {-1, 3, 4, LOW, HIGH};
        for (int what : wrong) {
            for (int v = 0; v < 5; v++) {
                DUE.is("choose(" + v + ", " + what + ")", x.choose(v, what), false);
            }
        }
        DUE.alike("after wrong ones", x, Given.diamond());
    }

    /** False is then not "none any more". */
    static void anotherWhatOfANodeThatIsAll() {
        BetweenCounts x = Given.nodes(1);
        x.choose(0, 0);
        DUE.is("choose(0, 3)", x.choose(0, 3), false);
        DUE.is("choose(0, -1)", x.choose(0, -1), false);
        DUE.is("told(4)", x.told(4), 1);
        DUE.is("choose(0, 0)", x.choose(0, 0), false);
        DUE.is("choose(0, 1)", x.choose(0, 1), false);
        DUE.is("choose(0, 2)", x.choose(0, 2), false);
    }

    /** It is seen by all that was asked before it. */
    static void itIsSeenByEveryCall() {
        for (int what = 0; what < 3; what++) {
            BetweenCounts x = Given.diamond();
            Given.everything(x);
            x.choose(1, what);
            BetweenCounts y = Given.diamond();
            y.choose(1, what);
            DUE.alike("with what = " + what, x, y);
            x.choose(1, what);
            DUE.alike("and back", x, Given.diamond());
        }
    }

    /** Each kind of fraction asked just before it and just after it. */
    static void itIsSeenByTheFractionThatWasAskedLast() {
        BetweenCounts x = Given.diamond();
        DUE.fraction("between before", (p, l) -> x.between(3, p, l), 3, 1);
        x.choose(0, 1);
        DUE.fraction("between after", (p, l) -> x.between(3, p, l), 2, 1);
        DUE.fraction("arcBetween before", (p, l) -> x.arcBetween(4, p, l), 3, 1);
        x.choose(0, 1);
        DUE.fraction("arcBetween after", (p, l) -> x.arcBetween(4, p, l), 4, 1);
        DUE.fraction("group before", x::group, 0, 1);
        x.choose(3, 0);
        DUE.fraction("group after", x::group, 3, 1);
        x.choose(4, 2);
        DUE.fraction("group after an end", x::group, 0, 1);
        DUE.fraction("harmonic before", (p, l) -> x.harmonic(3, p, l), 0, 1);
        x.choose(4, 2);
        DUE.fraction("harmonic after", (p, l) -> x.harmonic(3, p, l), 1, 1);
        DUE.fraction("close before", (p, l) -> x.close(0, p, l), 4, 7);
        x.choose(4, 2);
        DUE.fraction("close after", (p, l) -> x.close(0, p, l), 3, 4);
    }

    public static void main(String[] args) throws Exception {
        DUE.runAll(Promise05ChooseTest.class);
    }
}
