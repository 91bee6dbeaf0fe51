import java.math.BigInteger;

/**
 * "FRACTIONS are told in lowest terms, 0 as 0 / 1: part 0 is what is above, 1 what is below; limb 0
 * its lowest 32 bits, 1 the next 32, and so on, each as 0 .. 4294967295; 0 beyond its highest one.
 * NONE: no such node or arc, another part, a limb below 0."
 */
public final class FractionsTest {
    private static final Due DUE = new Due("Fractions");

    /** From one end of a row of arcs to the other: 1 by each weight, added. */
    private static Due.Asking row(int... weights) {
        BetweenCounts x = Given.chain(weights);
        return (part, limb) -> x.resistance(0, weights.length, part, limb);
    }

    /** Each of the seven fractions, where each is 0. */
    private static Due.Asking[] zeros() {
        BetweenCounts x = Given.network(2, 0, 1, 0);
        return new Due.Asking[] {
            (p, l) -> x.between(0, p, l), (p, l) -> x.arcBetween(0, p, l), x::group,
            (p, l) -> x.harmonic(0, p, l), (p, l) -> x.close(0, p, l),
            (p, l) -> x.resistance(0, 0, p, l), (p, l) -> x.carried(0, p, l)
        };
    }

    /** "in lowest terms". */
    static void inLowestTerms() {
        DUE.fraction("1 / 2 + 1 / 2", row(2, 2), 1, 1);
        DUE.fraction("1 / 6 + 1 / 10", row(6, 10), 4, 15);
        DUE.fraction("1 / 3 + 1 / 6 + 1 / 2", row(3, 6, 2), 1, 1);
        DUE.fraction("9 / 1000", row(1000, 1000, 1000, 1000, 1000, 1000, 1000, 1000, 1000), 9, 1000);
        BetweenCounts x = Given.network(4, 0, 1, 6, 0, 2, 10, 0, 3, 15);
        DUE.fraction("harmonic: 1 / 6 + 1 / 10 + 1 / 15", (p, l) -> x.harmonic(0, p, l), 1, 3);
        DUE.fraction("close: 3 / 31", (p, l) -> x.close(0, p, l), 3, 31);
        x.change(2, 14);
        DUE.fraction("close: 3 / 30", (p, l) -> x.close(0, p, l), 1, 10);
        BetweenCounts y = Given.network(3, 0, 1, 1, 0, 1, 1, 1, 2, 1, 0, 2, 2, 0, 2, 2);
        DUE.fraction("between: 2 / 4", (p, l) -> y.between(1, p, l), 1, 2);
        y.choose(1, 0);
        DUE.fraction("group: 2 / 4", y::group, 1, 2);
        DUE.fraction("arcBetween: 1 + 2 / 4", (p, l) -> y.arcBetween(2, p, l), 3, 2);
        BetweenCounts z = Given.network(3, 0, 1, 2, 1, 2, 2, 2, 0, 2);
        DUE.fraction("carried: 2 / 6", (p, l) -> z.carried(0, p, l), 1, 3);
    }

    /** "0 as 0 / 1". */
    static void zeroAs0By1() {
        for (Due.Asking zero : zeros()) {
            DUE.fraction("0", zero, 0, 1);
            DUE.isZeroBeyondLimb0(zero);
        }
    }

    /** A fraction that becomes 0 has 1 below again. */
    static void zeroAgain() {
        BetweenCounts x = Given.chain(3);
        DUE.fraction("harmonic before", (p, l) -> x.harmonic(0, p, l), 1, 3);
        x.change(0, 0);
        DUE.fraction("harmonic after", (p, l) -> x.harmonic(0, p, l), 0, 1);
    }

    /** "part 0 is what is above, 1 what is below". */
    static void aboveAndBelow() {
        Due.Asking asking = row(3, 5);
        DUE.is("part 0", asking.limb(0, 0), 8);
        DUE.is("part 1", asking.limb(1, 0), 15);
    }

    /** "limb 0 its lowest 32 bits": the greatest number of one limb has its highest bit set. */
    static void justBelowTwoLimbs() {
        long below = 227L * 229 * 233 * 239;
        Due.Asking asking = row(227, 229, 233, 239);
        DUE.holds("it has 32 bits", below >> 31 == 1);
        DUE.is("limb 0", asking.limb(1, 0), below);
        DUE.is("limb 1", asking.limb(1, 1), 0);
    }

    /** "1 the next 32". */
    static void justAboveOneLimb() {
        long below = 251L * 257 * 263 * 269;
        Due.Asking asking = row(251, 257, 263, 269);
        DUE.holds("it has 33 bits", below >> 32 == 1);
        DUE.is("limb 0", asking.limb(1, 0), below - (1L << 32));
        DUE.is("limb 1", asking.limb(1, 1), 1);
        DUE.is("limb 2", asking.limb(1, 2), 0);
    }

    /** "each as 0 .. 4294967295": the greatest limb; 481 * 511 * 513 * 545 is 2^36 - 1. */
    static void theGreatestLimb() {
        Due.Asking asking = row(481, 511, 513, 545);
        DUE.is("limb 0", asking.limb(1, 0), 4294967295L);
        DUE.is("limb 1", asking.limb(1, 1), 15);
        DUE.is("limb 2", asking.limb(1, 2), 0);
    }

    /** "each as 0 .. 4294967295": the least limb below one that is not 0. */
    static void theLeastLimb() {
        Due.Asking asking = row(173, 517, 551, 579, 991, 997);
        DUE.is("above, limb 0", asking.limb(0, 0), 0);
        DUE.is("above, limb 1", asking.limb(0, 1), 0x15439);
        DUE.is("above, limb 2", asking.limb(0, 2), 0);
        DUE.is("below, limb 0", asking.limb(1, 0), 0xA41EDA17L);
        DUE.is("below, limb 1", asking.limb(1, 1), 0x64290C);
    }

    /** "and so on": three limbs, by nine weights that have nothing in common. */
    static void limbsAndSoOn() {
        int[] primes = {997, 991, 983, 977, 971, 967, 953, 947, 941};
        BigInteger below = BigInteger.ONE;
        for (int p : primes) {
            below = below.multiply(BigInteger.valueOf(p));
        }
        BigInteger above = BigInteger.ZERO;
        for (int p : primes) {
            above = above.add(below.divide(BigInteger.valueOf(p)));
        }
        DUE.holds("three limbs", below.bitLength() > 64);
        DUE.fraction("resistance", row(primes), above, below);
        BetweenCounts x = Given.nodes(10);
        for (int v = 1; v < 10; v++) {
            x.arc(0, v, primes[v - 1]);
        }
        DUE.fraction("harmonic", (p, l) -> x.harmonic(0, p, l), above, below);
    }

    /** "NONE: .. another part, a limb below 0": of each of the seven. */
    static void anotherPartAndALimbBelow0() {
        for (Due.Asking zero : zeros()) {
            DUE.hasNoOtherPart(zero);
            DUE.hasNoLimbBelow0(zero);
        }
    }

    public static void main(String[] args) throws Exception {
        DUE.runAll(FractionsTest.class);
    }
}
