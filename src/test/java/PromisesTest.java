/** For each promise of the document: ordinary inputs, the edges that it names, and wrong inputs. */
public final class PromisesTest {
    private static final int NONE = BetweenCounts.NONE;
    private static final int LOW = Integer.MIN_VALUE;
    private static final int HIGH = Integer.MAX_VALUE;
    private static final Due DUE = new Due("PromisesTest");

    private static BetweenCounts withNodes(int many) {
        BetweenCounts x = new BetweenCounts();
        for (int v = 0; v < many; v++) {
            x.node();
        }
        return x;
    }

    /** Arcs from, to, weight; from, to, weight; .. */
    private static BetweenCounts network(int nodes, int... arcs) {
        BetweenCounts x = withNodes(nodes);
        for (int a = 0; a + 2 < arcs.length; a += 3) {
            x.arc(arcs[a], arcs[a + 1], arcs[a + 2]);
        }
        return x;
    }

    /** 0 leads by 1 and by 2 to 3, and 3 leads to 4. */
    private static BetweenCounts diamond() {
        return network(5, 0, 1, 1, 0, 2, 1, 1, 3, 1, 2, 3, 1, 3, 4, 1);
    }

    /** The asking of one fraction, so that its rules are tested for all of them alike. */
    private interface Asking {
        long limb(int part, int limb);
    }

    private static void fraction(String what, Asking asking, long above, long below) {
        DUE.is(what + " above", asking.limb(0, 0), above);
        DUE.is(what + " below", asking.limb(1, 0), below);
        DUE.is(what + " above, next limb", asking.limb(0, 1), 0);
        DUE.is(what + " below, next limb", asking.limb(1, 1), 0);
        DUE.is(what + " above, last limb", asking.limb(0, HIGH), 0);
        DUE.is(what + " below, last limb", asking.limb(1, HIGH), 0);
        DUE.is(what + " above, limb 2^27", asking.limb(0, 1 << 27), 0);
        DUE.is(what + " below, limb 2^27", asking.limb(1, 1 << 27), 0);
        DUE.is(what + " part 2", asking.limb(2, 0), NONE);
        DUE.is(what + " part -1", asking.limb(-1, 0), NONE);
        DUE.is(what + " part least", asking.limb(LOW, 0), NONE);
        DUE.is(what + " part most", asking.limb(HIGH, 0), NONE);
        DUE.is(what + " limb -1", asking.limb(0, -1), NONE);
        DUE.is(what + " limb least", asking.limb(1, LOW), NONE);
    }

    private static void nothing(String what, Asking asking) {
        DUE.is(what + " above", asking.limb(0, 0), NONE);
        DUE.is(what + " below", asking.limb(1, 0), NONE);
        DUE.is(what + " next limb", asking.limb(0, 1), NONE);
    }

    private static void newObject() {
        BetweenCounts x = new BetweenCounts();
        DUE.is("NONE", NONE, -1);
        int[] told = {0, 0, 0, 0, 0, 0};
        for (int what = 0; what < told.length; what++) {
            DUE.is("new: told(" + what + ")", x.told(what), told[what]);
        }
        DUE.is("new: far", x.far(0, 0), NONE);
        DUE.is("new: ways", x.ways(0, 0), NONE);
        DUE.is("new: stress", x.stress(0), NONE);
        DUE.is("new: top", x.top(0), NONE);
        DUE.is("new: change", x.change(0, 1), NONE);
        DUE.is("new: arc", x.arc(0, 1, 1), NONE);
        DUE.is("new: choose", x.choose(0, 0), false);
        nothing("new: between", (p, l) -> x.between(0, p, l));
        nothing("new: arcBetween", (p, l) -> x.arcBetween(0, p, l));
        nothing("new: harmonic", (p, l) -> x.harmonic(0, p, l));
        nothing("new: close", (p, l) -> x.close(0, p, l));
        nothing("new: resistance", (p, l) -> x.resistance(0, 0, p, l));
        nothing("new: carried", (p, l) -> x.carried(0, p, l));
        fraction("new: group", x::group, 0, 1);
        BetweenCounts y = withNodes(3);
        DUE.is("new: objects have nothing in common", x.told(0), 0);
        DUE.is("new: the other one", y.told(0), 3);
    }

    private static void nodes() {
        BetweenCounts x = new BetweenCounts();
        for (int v = 0; v < 10; v++) {
            DUE.is("node: number", x.node(), v);
            DUE.is("node: told(0)", x.told(0), v + 1);
        }
        DUE.is("node: eleventh", x.node(), NONE);
        DUE.is("node: twelfth", x.node(), NONE);
        DUE.is("node: told(0) after", x.told(0), 10);
        BetweenCounts y = network(2, 0, 1, 5);
        DUE.is("node: far before", y.far(0, 1), 5);
        DUE.is("node: a later one", y.node(), 2);
        DUE.is("node: it is apart", y.far(0, 2), NONE);
        DUE.is("node: it is one piece more", y.told(5), 2);
        DUE.is("node: far after", y.far(0, 1), 5);
    }

    private static void arcs() {
        BetweenCounts x = withNodes(3);
        int[][] wrong = {
            {0, 0, 1}, {2, 2, 0}, {0, 3, 1}, {3, 0, 1}, {-1, 0, 1}, {0, -1, 1}, {0, 1, -1}, {0, 1, 1001},
            {LOW, 1, 1}, {1, HIGH, 1}, {0, 1, LOW}, {0, 1, HIGH}
        };
        for (int[] a : wrong) {
            DUE.is("arc: wrong one", x.arc(a[0], a[1], a[2]), NONE);
        }
        DUE.is("arc: none came", x.told(1), 0);
        DUE.is("arc: weight 0", x.arc(0, 1, 0), 0);
        DUE.is("arc: it is not there", x.far(0, 1), NONE);
        DUE.is("arc: weight 1000", x.arc(0, 1, 1000), 1);
        DUE.is("arc: it is there", x.far(0, 1), 1000);
        DUE.is("arc: one more there", x.arc(0, 1, 1000), 2);
        DUE.is("arc: both are ways", x.ways(0, 1), 2);
        for (int a = 3; a < 30; a++) {
            DUE.is("arc: number", x.arc(a % 3, (a + 1) % 3, a % 2), a);
        }
        DUE.is("arc: thirty-first", x.arc(0, 1, 1), NONE);
        DUE.is("arc: told(1)", x.told(1), 30);
    }

    private static void changes() {
        BetweenCounts x = network(3, 0, 1, 4, 1, 2, 0);
        DUE.is("change: far before", x.far(0, 2), NONE);
        DUE.is("change: from 0", x.change(1, 6), 0);
        DUE.is("change: far after", x.far(0, 2), 10);
        DUE.is("change: to 1000", x.change(0, 1000), 4);
        DUE.is("change: far after 1000", x.far(0, 2), 1006);
        DUE.is("change: the same", x.change(0, 1000), 1000);
        DUE.is("change: to 0", x.change(0, 0), 1000);
        DUE.is("change: not there", x.far(0, 2), NONE);
        DUE.is("change: the arc stays", x.told(1), 2);
        int[][] wrong = {{2, 1}, {-1, 1}, {LOW, 1}, {HIGH, 1}, {1, -1}, {1, 1001}, {1, LOW}, {1, HIGH}};
        for (int[] w : wrong) {
            DUE.is("change: wrong one", x.change(w[0], w[1]), NONE);
        }
        DUE.is("change: nothing was done", x.far(1, 2), 6);
        changeIsSeen();
    }

    /** All that was answered before a change is answered anew after it. */
    private static void changeIsSeen() {
        BetweenCounts x = network(3, 0, 1, 2, 1, 2, 2, 0, 2, 5);
        x.choose(1, 0);
        fraction("change: between before", (p, l) -> x.between(1, p, l), 1, 1);
        fraction("change: arcBetween before", (p, l) -> x.arcBetween(2, p, l), 0, 1);
        fraction("change: group before", x::group, 1, 1);
        DUE.is("change: top before", x.top(0), 1);
        fraction("change: resistance before", (p, l) -> x.resistance(0, 2, p, l), 1, 6);
        DUE.is("change: it", x.change(2, 3), 5);
        fraction("change: resistance after", (p, l) -> x.resistance(0, 2, p, l), 1, 4);
        DUE.is("change: top after", x.top(0), 0);
        fraction("change: group after", x::group, 0, 1);
        fraction("change: arcBetween after", (p, l) -> x.arcBetween(2, p, l), 1, 1);
        fraction("change: between after", (p, l) -> x.between(1, p, l), 0, 1);
        fraction("change: harmonic", (p, l) -> x.harmonic(0, p, l), 5, 6);
        x.change(2, 4);
        fraction("change: harmonic after", (p, l) -> x.harmonic(0, p, l), 3, 4);
        fraction("change: close", (p, l) -> x.close(0, p, l), 1, 3);
        x.change(0, 1);
        fraction("change: close after", (p, l) -> x.close(0, p, l), 1, 2);
        fraction("change: carried", (p, l) -> x.carried(1, p, l), 1, 7);
        x.change(2, 0);
        fraction("change: carried after", (p, l) -> x.carried(1, p, l), 1, 1);
    }

    private static void chooses() {
        BetweenCounts x = diamond();
        for (int what = 0; what < 3; what++) {
            boolean first = what == 0;
            DUE.is("choose: once", x.choose(1, what), first);
            DUE.is("choose: twice", x.choose(1, what), !first);
            DUE.is("choose: another node", x.choose(2, what), first);
            DUE.is("choose: another node back", x.choose(2, what), !first);
        }
        int[][] wrong = {{5, 0}, {-1, 1}, {LOW, 2}, {HIGH, 0}, {0, 3}, {0, -1}, {0, LOW}, {0, HIGH}};
        for (int[] w : wrong) {
            DUE.is("choose: wrong one", x.choose(w[0], w[1]), false);
        }
        DUE.is("choose: nothing was done, pairs", x.told(3), 9);
        DUE.is("choose: nothing was done, group", x.told(4), 0);
        fraction("choose: between before", (p, l) -> x.between(3, p, l), 3, 1);
        fraction("choose: group before", x::group, 0, 1);
        x.choose(0, 1);
        fraction("choose: 0 is no begin", (p, l) -> x.between(3, p, l), 2, 1);
        DUE.is("choose: pairs without it", x.told(3), 5);
        x.choose(4, 2);
        fraction("choose: 4 is no end", (p, l) -> x.between(3, p, l), 0, 1);
        x.choose(0, 1);
        x.choose(4, 2);
        x.choose(3, 0);
        fraction("choose: 3 is the group", x::group, 3, 1);
        x.choose(5, 1);
        DUE.is("choose: a node that comes later", x.node(), 5);
        x.arc(5, 0, 1);
        DUE.is("choose: it is a begin", x.told(3), 14);
        x.arc(0, 5, 1);
        DUE.is("choose: it is an end", x.told(3), 15);
    }

    private static void fars() {
        BetweenCounts x = network(4, 0, 1, 7, 1, 2, 8, 0, 2, 20, 0, 1, 9, 2, 0, 1);
        DUE.is("far: itself", x.far(0, 0), 0);
        DUE.is("far: itself, apart", x.far(3, 3), 0);
        DUE.is("far: the lesser arc", x.far(0, 1), 7);
        DUE.is("far: two steps are less", x.far(0, 2), 15);
        DUE.is("far: by direction", x.far(1, 0), 9);
        DUE.is("far: no way", x.far(0, 3), NONE);
        int[][] wrong = {{0, 4}, {4, 0}, {4, 4}, {-1, 0}, {0, -1}, {LOW, HIGH}, {HIGH, 1}};
        for (int[] w : wrong) {
            DUE.is("far: wrong one", x.far(w[0], w[1]), NONE);
        }
        BetweenCounts y = withNodes(10);
        for (int v = 9; v > 0; v--) {
            y.arc(v, v - 1, 1000);
        }
        DUE.is("far: longest", y.far(9, 0), 9000);
        DUE.is("far: back", y.far(0, 9), NONE);
    }

    private static void waysCounted() {
        BetweenCounts x = diamond();
        DUE.is("ways: itself", x.ways(4, 4), 1);
        DUE.is("ways: one", x.ways(0, 1), 1);
        DUE.is("ways: two", x.ways(0, 4), 2);
        DUE.is("ways: none", x.ways(4, 0), 0);
        x.arc(0, 3, 2);
        DUE.is("ways: three", x.ways(0, 4), 3);
        x.arc(0, 1, 1);
        DUE.is("ways: one more arc of the same length", x.ways(0, 4), 4);
        x.arc(0, 1, 2);
        DUE.is("ways: a longer arc is no least way", x.ways(0, 4), 4);
        x.arc(0, 3, 1);
        DUE.is("ways: only the shortest", x.ways(0, 4), 1);
        int[][] wrong = {{0, 5}, {5, 0}, {5, 5}, {-1, 0}, {0, -1}, {LOW, HIGH}};
        for (int[] w : wrong) {
            DUE.is("ways: wrong one", x.ways(w[0], w[1]), NONE);
        }
    }

    private static void stresses() {
        BetweenCounts x = diamond();
        x.arc(3, 4, 1);
        DUE.is("stress: 3", x.stress(3), 8);
        DUE.is("stress: 1", x.stress(1), 3);
        DUE.is("stress: a begin alone", x.stress(0), 0);
        DUE.is("stress: an end alone", x.stress(4), 0);
        x.choose(0, 1);
        DUE.is("stress: without a begin", x.stress(3), 4);
        x.choose(4, 2);
        DUE.is("stress: without an end", x.stress(3), 0);
        DUE.is("stress: wrong 5", x.stress(5), NONE);
        DUE.is("stress: wrong -1", x.stress(-1), NONE);
        DUE.is("stress: wrong least", x.stress(LOW), NONE);
        DUE.is("stress: wrong most", x.stress(HIGH), NONE);
    }

    private static void betweens() {
        BetweenCounts x = diamond();
        fraction("between: 0", (p, l) -> x.between(0, p, l), 0, 1);
        fraction("between: 1", (p, l) -> x.between(1, p, l), 1, 1);
        fraction("between: 3", (p, l) -> x.between(3, p, l), 3, 1);
        x.arc(0, 1, 1);
        fraction("between: 1 by thirds", (p, l) -> x.between(1, p, l), 4, 3);
        fraction("between: 2 by thirds", (p, l) -> x.between(2, p, l), 2, 3);
        x.choose(1, 1);
        x.choose(1, 2);
        fraction("between: whether 1 is a begin is all the same", (p, l) -> x.between(1, p, l), 4, 3);
        nothing("between: wrong 5", (p, l) -> x.between(5, p, l));
        nothing("between: wrong -1", (p, l) -> x.between(-1, p, l));
        nothing("between: wrong least", (p, l) -> x.between(LOW, p, l));
        nothing("between: wrong most", (p, l) -> x.between(HIGH, p, l));
    }

    private static void arcBetweens() {
        BetweenCounts x = diamond();
        x.arc(0, 1, 1);
        x.arc(1, 2, 0);
        fraction("arcBetween: one of two alike", (p, l) -> x.arcBetween(0, p, l), 7, 6);
        fraction("arcBetween: the other one", (p, l) -> x.arcBetween(5, p, l), 7, 6);
        fraction("arcBetween: past 2", (p, l) -> x.arcBetween(1, p, l), 5, 3);
        fraction("arcBetween: all", (p, l) -> x.arcBetween(4, p, l), 4, 1);
        fraction("arcBetween: not there", (p, l) -> x.arcBetween(6, p, l), 0, 1);
        x.choose(0, 1);
        fraction("arcBetween: no begin", (p, l) -> x.arcBetween(0, p, l), 0, 1);
        fraction("arcBetween: fewer begins", (p, l) -> x.arcBetween(4, p, l), 3, 1);
        x.choose(4, 2);
        fraction("arcBetween: no end", (p, l) -> x.arcBetween(4, p, l), 0, 1);
        nothing("arcBetween: wrong 7", (p, l) -> x.arcBetween(7, p, l));
        nothing("arcBetween: wrong -1", (p, l) -> x.arcBetween(-1, p, l));
        nothing("arcBetween: wrong least", (p, l) -> x.arcBetween(LOW, p, l));
        nothing("arcBetween: wrong most", (p, l) -> x.arcBetween(HIGH, p, l));
    }

    private static void groups() {
        BetweenCounts x = diamond();
        fraction("group: nobody", x::group, 0, 1);
        x.choose(1, 0);
        fraction("group: 1", x::group, 1, 1);
        x.choose(3, 0);
        fraction("group: 1 and 3, a way past both is counted once", x::group, 2, 1);
        x.choose(1, 0);
        fraction("group: 3", x::group, 3, 1);
        x.choose(0, 0);
        fraction("group: pairs of its nodes do not count", x::group, 2, 1);
        x.choose(1, 1);
        fraction("group: without a begin", x::group, 1, 1);
        BetweenCounts y = network(4, 0, 1, 1, 1, 3, 1, 0, 2, 2, 2, 3, 2, 0, 3, 2);
        y.choose(1, 0);
        fraction("group: a longer way past it is no least way", y::group, 1, 2);
        y.arc(0, 1, 1);
        fraction("group: by thirds", y::group, 2, 3);
        BetweenCounts z = network(3, 0, 1, 1, 1, 2, 1);
        for (int v = 0; v < 3; v++) {
            z.choose(v, 0);
        }
        fraction("group: all", z::group, 0, 1);
    }

    private static void harmonics() {
        BetweenCounts x = network(5, 0, 1, 2, 1, 2, 1, 0, 3, 4);
        fraction("harmonic: 0", (p, l) -> x.harmonic(0, p, l), 13, 12);
        fraction("harmonic: nobody is reached", (p, l) -> x.harmonic(2, p, l), 0, 1);
        fraction("harmonic: apart", (p, l) -> x.harmonic(4, p, l), 0, 1);
        x.choose(0, 1);
        x.choose(0, 2);
        fraction("harmonic: what the node itself is, is all the same", (p, l) -> x.harmonic(0, p, l), 13, 12);
        x.choose(3, 2);
        fraction("harmonic: without an end", (p, l) -> x.harmonic(0, p, l), 5, 6);
        x.choose(1, 1);
        fraction("harmonic: begins are all the same", (p, l) -> x.harmonic(0, p, l), 5, 6);
        nothing("harmonic: wrong 5", (p, l) -> x.harmonic(5, p, l));
        nothing("harmonic: wrong -1", (p, l) -> x.harmonic(-1, p, l));
        nothing("harmonic: wrong least", (p, l) -> x.harmonic(LOW, p, l));
        nothing("harmonic: wrong most", (p, l) -> x.harmonic(HIGH, p, l));
        BetweenCounts y = network(6, 0, 1, 997, 0, 2, 991, 0, 3, 983, 0, 4, 977, 0, 5, 971);
        long below = 997L * 991 * 983 * 977 * 971;
        DUE.is("harmonic: long, below, limb 0", y.harmonic(0, 1, 0), below & 0xFFFFFFFFL);
        DUE.is("harmonic: long, below, limb 1", y.harmonic(0, 1, 1), below >> 32);
        DUE.is("harmonic: long, below, limb 2", y.harmonic(0, 1, 2), 0);
    }

    private static void closes() {
        BetweenCounts x = network(5, 0, 1, 2, 1, 2, 2, 0, 3, 6);
        fraction("close: 0", (p, l) -> x.close(0, p, l), 1, 4);
        fraction("close: nobody is reached", (p, l) -> x.close(2, p, l), 0, 1);
        fraction("close: apart", (p, l) -> x.close(4, p, l), 0, 1);
        x.choose(0, 2);
        x.choose(0, 1);
        fraction("close: what the node itself is, is all the same", (p, l) -> x.close(0, p, l), 1, 4);
        x.choose(3, 2);
        fraction("close: without an end", (p, l) -> x.close(0, p, l), 1, 3);
        nothing("close: wrong 5", (p, l) -> x.close(5, p, l));
        nothing("close: wrong -1", (p, l) -> x.close(-1, p, l));
        nothing("close: wrong least", (p, l) -> x.close(LOW, p, l));
        nothing("close: wrong most", (p, l) -> x.close(HIGH, p, l));
    }

    private static void tops() {
        BetweenCounts x = diamond();
        int[] order = {3, 1, 2, 0, 4};
        for (int k = 0; k < 5; k++) {
            DUE.is("top: " + k, x.top(k), order[k]);
        }
        x.arc(0, 2, 1);
        DUE.is("top: 2 has more", x.top(1), 2);
        DUE.is("top: 1 has less", x.top(2), 1);
        x.change(1, 0);
        x.change(5, 0);
        x.arc(0, 1, 1);
        x.arc(0, 2, 1);
        x.arc(0, 1, 1);
        DUE.is("top: 1 has 3 / 2", x.between(1, 0, 0) * 10 + x.between(1, 1, 0), 32);
        DUE.is("top: 2 has 1 / 2", x.between(2, 0, 0) * 10 + x.between(2, 1, 0), 12);
        DUE.is("top: 1 has more again", x.top(1), 1);
        DUE.is("top: 2 has less again", x.top(2), 2);
        x.choose(0, 1);
        DUE.is("top: both have nothing now, the lesser one", x.top(1), 0);
        DUE.is("top: and the next", x.top(2), 1);
        int[] wrong = {5, -1, 10, LOW, HIGH};
        for (int k : wrong) {
            DUE.is("top: wrong " + k, x.top(k), NONE);
        }
        x.node();
        DUE.is("top: one node more", x.top(5), 5);
    }

    private static void resistances() {
        BetweenCounts x = network(5, 0, 1, 2, 1, 2, 3, 0, 2, 6, 3, 4, 0);
        fraction("resistance: 0 to 1", (p, l) -> x.resistance(0, 1, p, l), 1, 4);
        fraction("resistance: 1 to 0", (p, l) -> x.resistance(1, 0, p, l), 1, 4);
        fraction("resistance: 1 to 2", (p, l) -> x.resistance(1, 2, p, l), 2, 9);
        fraction("resistance: 2 to 0", (p, l) -> x.resistance(2, 0, p, l), 5, 36);
        fraction("resistance: itself", (p, l) -> x.resistance(2, 2, p, l), 0, 1);
        fraction("resistance: itself, apart", (p, l) -> x.resistance(4, 4, p, l), 0, 1);
        nothing("resistance: another piece", (p, l) -> x.resistance(0, 3, p, l));
        nothing("resistance: an arc that is not there", (p, l) -> x.resistance(3, 4, p, l));
        x.change(3, 1000);
        fraction("resistance: the arc is there", (p, l) -> x.resistance(4, 3, p, l), 1, 1000);
        x.arc(4, 3, 1000);
        fraction("resistance: two alike", (p, l) -> x.resistance(4, 3, p, l), 1, 2000);
        fraction("resistance: the other piece again", (p, l) -> x.resistance(0, 1, p, l), 1, 4);
        int[][] wrong = {{0, 5}, {5, 0}, {5, 5}, {-1, 0}, {0, -1}, {-1, -1}, {LOW, HIGH}};
        for (int[] w : wrong) {
            nothing("resistance: wrong one", (p, l) -> x.resistance(w[0], w[1], p, l));
        }
        BetweenCounts y = network(5, 0, 1, 997, 1, 2, 991, 2, 3, 983, 3, 4, 977);
        long below = 997L * 991 * 983 * 977;
        DUE.is("resistance: long, below, limb 0", y.resistance(0, 4, 1, 0), below & 0xFFFFFFFFL);
        DUE.is("resistance: long, below, limb 1", y.resistance(0, 4, 1, 1), below >> 32);
    }

    private static void carries() {
        BetweenCounts x = network(5, 0, 1, 1, 1, 2, 1, 0, 2, 1, 3, 4, 1);
        fraction("carried: a triangle", (p, l) -> x.carried(0, p, l), 1, 3);
        fraction("carried: no other two", (p, l) -> x.carried(3, p, l), 0, 1);
        x.arc(2, 3, 1);
        fraction("carried: a bridge", (p, l) -> x.carried(3, p, l), 3, 1);
        fraction("carried: at its other side", (p, l) -> x.carried(2, p, l), 13, 3);
        fraction("carried: a leaf", (p, l) -> x.carried(4, p, l), 0, 1);
        x.choose(0, 1);
        x.choose(4, 2);
        fraction("carried: choices are all the same", (p, l) -> x.carried(3, p, l), 3, 1);
        BetweenCounts y = network(3, 0, 1, 2, 1, 2, 3, 2, 0, 6, 2, 0, 0);
        fraction("carried: by weights", (p, l) -> y.carried(1, p, l), 1, 6);
        fraction("carried: alone", (p, l) -> network(1).carried(0, p, l), 0, 1);
        nothing("carried: wrong 5", (p, l) -> x.carried(5, p, l));
        nothing("carried: wrong -1", (p, l) -> x.carried(-1, p, l));
        nothing("carried: wrong least", (p, l) -> x.carried(LOW, p, l));
        nothing("carried: wrong most", (p, l) -> x.carried(HIGH, p, l));
    }

    private static void tolds() {
        BetweenCounts x = network(6, 0, 1, 1, 1, 2, 1, 2, 0, 0, 4, 3, 1);
        int[] told = {6, 4, 3, 4, 0, 3};
        for (int what = 0; what < told.length; what++) {
            DUE.is("told: " + what, x.told(what), told[what]);
        }
        x.choose(5, 0);
        x.choose(0, 0);
        DUE.is("told: group", x.told(4), 2);
        x.change(2, 3);
        DUE.is("told: arcs there", x.told(2), 4);
        DUE.is("told: pairs of a ring", x.told(3), 7);
        x.choose(0, 1);
        DUE.is("told: pairs without a begin", x.told(3), 5);
        x.choose(3, 2);
        DUE.is("told: pairs without an end", x.told(3), 4);
        x.arc(5, 4, 9);
        DUE.is("told: pieces", x.told(5), 2);
        int[] wrong = {6, -1, LOW, HIGH};
        for (int what : wrong) {
            DUE.is("told: wrong " + what, x.told(what), NONE);
        }
    }

    /** What an asking answers does not hang on what was asked before. */
    private static void askingsInTurn() {
        BetweenCounts x = diamond();
        x.choose(3, 0);
        for (int turn = 0; turn < 3; turn++) {
            DUE.is("in turn: arcBetween 0", x.arcBetween(0, 0, 0), 2);
            DUE.is("in turn: arcBetween 2", x.arcBetween(2, 0, 0), 3);
            DUE.is("in turn: group", x.group(0, 0), 3);
            DUE.is("in turn: harmonic", x.harmonic(0, 1, 0), 6);
            DUE.is("in turn: close", x.close(0, 1, 0), 7);
            DUE.is("in turn: resistance", x.resistance(0, 1, 1, 0), 4);
            DUE.is("in turn: carried", x.carried(3, 0, 0), 4);
            DUE.is("in turn: between", x.between(3, 0, 0), 3);
            DUE.is("in turn: resistance of another pair", x.resistance(3, 4, 1, 0), 1);
        }
    }

    public static void main(String[] args) {
        newObject();
        nodes();
        arcs();
        changes();
        chooses();
        fars();
        waysCounted();
        stresses();
        betweens();
        arcBetweens();
        groups();
        harmonics();
        closes();
        tops();
        resistances();
        carries();
        tolds();
        askingsInTurn();
        DUE.end();
    }
}
