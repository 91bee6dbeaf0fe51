import java.lang.reflect.Method;
import java.lang.reflect.Modifier;
import java.math.BigInteger;
import java.util.Arrays;
import java.util.Comparator;

/** Compares answers with what is due, prints the wrong ones and ends the test's run. */
final class Due {
    static final int NONE = -1;
    static final int LOW = Integer.MIN_VALUE;
    static final int HIGH = Integer.MAX_VALUE;

    /** The asking of one fraction, so that the rules of fractions are tested for all of them alike. */
    interface Asking {
        long limb(int part, int limb);
    }

    /** The asking of a fraction of any node. */
    interface AskingOfNode {
        long limb(BetweenCounts x, int node, int part, int limb);
    }

    private final String test;
    private String inside = "";
    private int right = 0;
    private int wrong = 0;

    Due(String test) {
        this.test = test;
    }

    void is(String call, long got, long want) {
        if (got == want) {
            right++;
            return;
        }
        wrong++;
        if (wrong <= 40) {
            System.out.println(test + inside + ": " + call + " answered " + got + ", due is " + want);
        }
    }

    void is(String call, boolean got, boolean want) {
        is(call, got ? 1 : 0, want ? 1 : 0);
    }

    void holds(String what, boolean holds) {
        is(what, holds, true);
    }

    /** Every limb of both parts, and one limb more. */
    void fraction(String what, Asking asking, BigInteger above, BigInteger below) {
        for (int part = 0; part < 2; part++) {
            BigInteger number = part == 0 ? above : below;
            for (int limb = 0; limb <= number.bitLength() / 32 + 1; limb++) {
                long want = number.shiftRight(32 * limb).longValue() & 0xFFFFFFFFL;
                is(what + ", part " + part + ", limb " + limb, asking.limb(part, limb), want);
            }
        }
    }

    void fraction(String what, Asking asking, long above, long below) {
        fraction(what, asking, BigInteger.valueOf(above), BigInteger.valueOf(below));
    }

    /** "0 beyond its highest one", for a fraction of one limb above and below. */
    void isZeroBeyondLimb0(Asking asking) {
        // 32 times 2^26 and 32 times 2^27 leave an int's range: a limb's first bit must not wrap around.
        int[] beyond = {1, 2, 49, 50, 51, 1 << 26, 1 << 27, 1 << 28, HIGH - 1, HIGH};
        for (int limb : beyond) {
            is("above, limb " + limb, asking.limb(0, limb), 0);
            is("below, limb " + limb, asking.limb(1, limb), 0);
        }
    }

    /** "NONE: .. another part". */
    void hasNoOtherPart(Asking asking) {
        int[] others = {-1, 2, 3, LOW, HIGH};
        for (int part : others) {
            is("part " + part, asking.limb(part, 0), NONE);
            is("part " + part + ", limb 1", asking.limb(part, 1), NONE);
            is("part " + part + ", last limb", asking.limb(part, HIGH), NONE);
        }
    }

    /** "NONE: .. a limb below 0". */
    void hasNoLimbBelow0(Asking asking) {
        int[] below = {-1, -2, -(1 << 27), LOW};
        for (int limb : below) {
            is("above, limb " + limb, asking.limb(0, limb), NONE);
            is("below, limb " + limb, asking.limb(1, limb), NONE);
            is("part 2, limb " + limb, asking.limb(2, limb), NONE);
        }
    }

    void isNone(String what, Asking asking) {
        is(what + ", above", asking.limb(0, 0), NONE);
        is(what + ", below", asking.limb(1, 0), NONE);
        is(what + ", next limb", asking.limb(0, 1), NONE);
        is(what + ", last limb", asking.limb(1, HIGH), NONE);
        is(what + ", another part", asking.limb(2, 0), NONE);
        is(what + ", a limb below 0", asking.limb(0, -1), NONE);
    }

    /** "NONE: no such node". */
    void hasNoOtherNode(AskingOfNode asking) {
        BetweenCounts five = Given.diamond();
        int[] others = {-1, 5, 9, 10, LOW, HIGH};
        for (int node : others) {
            isNone("node " + node + " of five", (part, limb) -> asking.limb(five, node, part, limb));
        }
        BetweenCounts ten = Given.nodes(10);
        isNone("the eleventh of ten", (part, limb) -> asking.limb(ten, 10, part, limb));
        is("the tenth of ten", asking.limb(ten, 9, 1, 0), 1);
        BetweenCounts none = new BetweenCounts();
        isNone("without nodes", (part, limb) -> asking.limb(none, 0, part, limb));
    }

    /** Whether two objects answer alike to all that can be asked of them. */
    void alike(String what, BetweenCounts got, BetweenCounts want) {
        long[] gotAll = Given.everything(got);
        long[] wantAll = Given.everything(want);
        is(what + ": how many answers", gotAll.length, wantAll.length);
        for (int i = 0; i < Math.min(gotAll.length, wantAll.length); i++) {
            is(what + ": answer " + i, gotAll[i], wantAll[i]);
        }
    }

    /** Runs every test method of a class, so that none is forgotten; each one must compare something. */
    void runAll(Class<?> tests) throws ReflectiveOperationException {
        Method[] methods = tests.getDeclaredMethods();
        Arrays.sort(methods, Comparator.comparing(Method::getName));
        for (Method m : methods) {
            boolean isTest = Modifier.isStatic(m.getModifiers()) && !m.isSynthetic()
                    && m.getParameterCount() == 0 && m.getReturnType() == void.class;
            if (isTest) {
                inside = ", " + m.getName();
                int before = right + wrong;
                m.setAccessible(true);
                m.invoke(null);
                holds("something is compared", right + wrong > before);
            }
        }
        end();
    }

    void end() {
        System.out.println(test + ": " + right + " as due, " + wrong + " not");
        if (wrong != 0 || right == 0) {
            System.exit(1);
        }
    }
}
