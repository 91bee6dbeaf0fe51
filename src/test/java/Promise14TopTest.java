/**
 * Promise 14, top: "The node with the k-th greatest BETWEEN, k from 0 on, of those with the same one
 * the lesser number first. NONE: no such k."
 */
public final class Promise14TopTest {
    private static final Due DUE = new Due("Promise 14, top");
    private static final int NONE = Due.NONE;
    private static final int LOW = Due.LOW;
    private static final int HIGH = Due.HIGH;

    private static void order(String what, BetweenCounts x, int... nodes) {
        for (int k = 0; k < nodes.length; k++) {
            DUE.is(what + ", top(" + k + ")", x.top(k), nodes[k]);
        }
        DUE.is(what + ", one beyond", x.top(nodes.length), NONE);
    }

    /** "The node with the k-th greatest BETWEEN, k from 0 on". */
    static void theGreatestFirst() {
        order("a diamond", Given.diamond(), 3, 1, 2, 0, 4);
        order("the middle of a chain first", Given.chain(1, 1, 1, 1), 2, 1, 3, 0, 4);
    }

    /** 3 / 1 before 4 / 3 before 2 / 3: what is above alone says nothing. */
    static void byTheWholeFraction() {
        BetweenCounts x = Given.diamond();
        x.arc(0, 1, 1);
        order("3 / 1, 4 / 3, 2 / 3", x, 3, 1, 2, 0, 4);
        // From 0 to 4 a third of the ways goes by 1, a half by 2, a sixth by 3; 1 and 3 have both 1 above.
        BetweenCounts y = Given.nodes(5);
        int[] many = {0, 2, 3, 1};
        for (int v = 1; v < 4; v++) {
            for (int a = 0; a < many[v]; a++) {
                y.arc(0, v, 1);
            }
            y.arc(v, 4, 1);
        }
        order("1 / 3, 1 / 2, 1 / 6", y, 2, 1, 3, 0, 4);
    }

    /** 48 and 49 ways of 97. */
    static void oneWayMore() {
        BetweenCounts x = Given.nodes(4);
        int[][] many = {{0, 1, 6}, {1, 3, 8}, {0, 2, 7}, {2, 3, 7}};
        for (int[] m : many) {
            for (int a = 0; a < m[2]; a++) {
                x.arc(m[0], m[1], 1);
            }
        }
        DUE.fraction("between(1)", (p, l) -> x.between(1, p, l), 48, 97);
        DUE.fraction("between(2)", (p, l) -> x.between(2, p, l), 49, 97);
        order("48 / 97 and 49 / 97", x, 2, 1, 0, 3);
    }

    /** "of those with the same one the lesser number first". */
    static void theLesserNumberFirst() {
        order("all have 0", Given.nodes(10), 0, 1, 2, 3, 4, 5, 6, 7, 8, 9);
        order("all have the same", Given.ring(10), 0, 1, 2, 3, 4, 5, 6, 7, 8, 9);
        order("a pair in the middle", Given.chain(1, 1, 1), 1, 2, 0, 3);
        BetweenCounts x = Given.network(4, 3, 2, 1, 2, 1, 1, 1, 0, 1);
        order("the chain the other way round", x, 1, 2, 0, 3);
    }

    /** The same value of other shares: two halves are as much as one whole, on either side of it. */
    static void theSameOfOtherShares() {
        BetweenCounts x = Given.diamond();
        for (int v = 5; v < 8; v++) {
            x.node();
        }
        x.arc(5, 6, 1);
        x.arc(6, 7, 1);
        order("halves first", x, 3, 1, 2, 6, 0, 4, 5, 7);
        BetweenCounts y = Given.network(8, 0, 1, 1, 1, 2, 1, 3, 4, 1, 3, 5, 1, 4, 6, 1, 5, 6, 1, 6, 7, 1);
        order("the whole first", y, 6, 1, 4, 5, 0, 2, 3, 7);
    }

    /** Long fractions that differ by less than a 400000th, the greater one of the greater number. */
    static void aLittleMore() {
        BetweenCounts x = Given.network(10,
                0, 7, 7, 9, 7, 8, 9, 2, 3, 4, 8, 4, 4, 6, 2, 4, 8, 4, 2, 3, 1, 6, 3, 7, 2, 5, 3, 8, 0, 2,
                7, 1, 4, 1, 2, 1, 3, 4, 1, 1, 0, 9, 4, 8, 4, 8, 0, 2, 2, 9, 7, 5, 8, 3, 2, 3, 1, 2, 5, 3,
                0, 7, 7, 6, 8, 2, 6, 5, 9, 2, 3, 1, 4, 3, 9, 0, 1, 1, 5, 8, 3, 8, 0, 2, 8, 4, 6, 6, 3, 7);
        DUE.fraction("between(7)", (p, l) -> x.between(7, p, l), 1, 49);
        DUE.fraction("between(9)", (p, l) -> x.between(9, p, l), 196, 9603);
        order("196 / 9603 is more than 1 / 49", x, 2, 1, 8, 0, 4, 3, 6, 5, 9, 7);
    }

    /** What BETWEEN counts is of BEGINS and ENDS, and so is the order. */
    static void itChangesWithTheChoices() {
        BetweenCounts x = Given.diamond();
        DUE.is("before", x.top(0), 3);
        x.choose(4, 2);
        order("4 is no end", x, 1, 2, 0, 3, 4);
        x.choose(0, 1);
        order("nobody is between", x, 0, 1, 2, 3, 4);
        x.choose(4, 2);
        order("3 alone is between", x, 3, 0, 1, 2, 4);
    }

    static void itChangesWithTheNetwork() {
        BetweenCounts x = Given.diamond();
        DUE.is("before", x.top(1), 1);
        x.arc(0, 2, 1);
        order("2 has more", x, 3, 2, 1, 0, 4);
        x.change(5, 0);
        order("both have the same", x, 3, 1, 2, 0, 4);
        x.node();
        order("a node more", x, 3, 1, 2, 0, 4, 5);
    }

    /** "NONE: no such k." */
    static void noSuchK() {
        BetweenCounts x = Given.diamond();
        int[] wrong = {-1, 5, 6, 9, 10, LOW, HIGH};
        for (int k : wrong) {
            DUE.is("top(" + k + ")", x.top(k), NONE);
        }
        DUE.is("the last one is one", x.top(4), 4);
        DUE.is("without nodes", new BetweenCounts().top(0), NONE);
        DUE.is("the tenth of ten", Given.nodes(10).top(9), 9);
        DUE.is("the eleventh of ten", Given.nodes(10).top(10), NONE);
    }

    public static void main(String[] args) throws Exception {
        DUE.runAll(Promise14TopTest.class);
    }
}
