import java.util.Arrays;

/** Networks for the tests, and all that can be asked of one. */
final class Given {
    static BetweenCounts nodes(int many) {
        BetweenCounts x = new BetweenCounts();
        for (int v = 0; v < many; v++) {
            x.node();
        }
        return x;
    }

    /** Arcs from, to, weight; from, to, weight; .. */
    static BetweenCounts network(int nodes, int... arcs) {
        BetweenCounts x = nodes(nodes);
        for (int a = 0; a + 2 < arcs.length; a += 3) {
            x.arc(arcs[a], arcs[a + 1], arcs[a + 2]);
        }
        return x;
    }

    /** 0 leads by 1 and by 2 to 3, and 3 leads to 4: nine pairs. */
    static BetweenCounts diamond() {
        return network(5, 0, 1, 1, 0, 2, 1, 1, 3, 1, 2, 3, 1, 3, 4, 1);
    }

    /** 0 leads to 1, 1 to 2, and so on. */
    static BetweenCounts chain(int... weights) {
        BetweenCounts x = nodes(weights.length + 1);
        for (int v = 0; v < weights.length; v++) {
            x.arc(v, v + 1, weights[v]);
        }
        return x;
    }

    /** Ten nodes in a row, of which each leads to the next one by an arc of this weight. */
    static BetweenCounts longChain(int weight) {
        int[] weights = new int[9];
        Arrays.fill(weights, weight);
        return chain(weights);
    }

    /** A row of nodes, of which each leads to the next one, and the last one to the first. */
    static BetweenCounts ring(int nodes) {
        BetweenCounts x = nodes(nodes);
        for (int v = 0; v < nodes; v++) {
            x.arc(v, (v + 1) % nodes, 1);
        }
        return x;
    }

    /** Ten nodes and thirty arcs: the steps 0, 1 and 2 have four arcs each, the steps 3 to 8 three. */
    static BetweenCounts full() {
        BetweenCounts x = nodes(10);
        for (int a = 0; a < 30; a++) {
            x.arc(a % 9, a % 9 + 1, 1000);
        }
        return x;
    }

    /** How many arcs full() has from a node to the next one. */
    static int arcsOfFull(int step) {
        return step < 3 ? 4 : 3;
    }

    /** An object is only good for 512 calls: less than 400 of them are used here. */
    static long[] everything(BetweenCounts x) {
        long[] answers = new long[400];
        int n = 0;
        for (int what = 0; what < 6; what++) {
            answers[n++] = x.told(what);
        }
        answers[n++] = x.group(0, 0);
        answers[n++] = x.group(1, 0);
        int nodes = x.told(0);
        int arcs = x.told(1);
        for (int u = 0; u < nodes; u++) {
            for (int v = 0; v < nodes; v++) {
                answers[n++] = x.far(u, v);
                answers[n++] = x.ways(u, v);
            }
            answers[n++] = x.stress(u);
            answers[n++] = x.top(u);
            for (int part = 0; part < 2; part++) {
                answers[n++] = x.between(u, part, 0);
                answers[n++] = x.harmonic(u, part, 0);
                answers[n++] = x.close(u, part, 0);
                answers[n++] = x.resistance(0, u, part, 0);
                answers[n++] = x.carried(u, part, 0);
            }
        }
        for (int a = 0; a < arcs; a++) {
            answers[n++] = x.arcBetween(a, 0, 0);
            answers[n++] = x.arcBetween(a, 1, 0);
        }
        return Arrays.copyOf(answers, n);
    }

    private Given() {
    }
}
