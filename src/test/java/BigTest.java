import java.lang.reflect.Constructor;
import java.lang.reflect.Field;
import java.lang.reflect.Method;
import java.math.BigInteger;

/**
 * The long numbers inside the class against BigInteger. Digits are often the least or the greatest
 * ones, as only these lead to the seldom steps of the long division.
 */
public final class BigTest {
    private static final Due DUE = new Due("BigTest");
    private static final long BASE = 1L << 30;
    private static long seed = 30L;

    private static final Class<?> BIG = inside("Big");
    private static final Class<?> DIVIDER = inside("Divider");

    private static Class<?> inside(String name) {
        for (Class<?> c : BetweenCounts.class.getDeclaredClasses()) {
            if (c.getSimpleName().equals(name)) {
                return c;
            }
        }
        throw new IllegalStateException("no class " + name);
    }

    private static long pick(long bound) {
        seed = seed * 6364136223846793005L + 1442695040888963407L;
        return (seed >>> 20) % bound;
    }

    private static Object make(Class<?> type, Object... room) throws Exception {
        Constructor<?> c = type.getDeclaredConstructors()[0];
        c.setAccessible(true);
        return c.newInstance(room);
    }

    private static Field field(Object of, String name) throws Exception {
        Field f = of.getClass().getDeclaredField(name);
        f.setAccessible(true);
        return f;
    }

    private static Object call(Object on, String name, Object... arguments) throws Exception {
        for (Method m : on.getClass().getDeclaredMethods()) {
            if (m.getName().equals(name)) {
                m.setAccessible(true);
                return m.invoke(on, arguments);
            }
        }
        throw new IllegalStateException("no method " + name);
    }

    private static Object big(long[] digits) throws Exception {
        Object big = make(BIG, 24);
        System.arraycopy(digits, 0, (long[]) field(big, "digit").get(big), 0, digits.length);
        field(big, "size").setInt(big, digits.length);
        call(big, "trim");
        return big;
    }

    private static BigInteger value(Object big) throws Exception {
        long[] digits = (long[]) field(big, "digit").get(big);
        BigInteger sum = BigInteger.ZERO;
        for (int i = field(big, "size").getInt(big) - 1; i >= 0; i--) {
            DUE.holds("a digit is within its base", 0 <= digits[i] && digits[i] < BASE);
            sum = sum.shiftLeft(30).add(BigInteger.valueOf(digits[i]));
        }
        return sum;
    }

    private static long[] someDigits(int most) {
        long[] digits = new long[(int) pick(most + 1)];
        for (int i = 0; i < digits.length; i++) {
            switch ((int) pick(6)) {
                case 0:
                    digits[i] = 0;
                    break;
                case 1:
                    digits[i] = BASE - 1;
                    break;
                case 2:
                    digits[i] = BASE / 2 - pick(2);
                    break;
                case 3:
                    digits[i] = pick(4);
                    break;
                default:
                    digits[i] = pick(BASE);
            }
        }
        return digits;
    }

    private static void same(String what, BigInteger got, BigInteger want) {
        DUE.holds(what + ": " + got + ", due is " + want, got.equals(want));
    }

    private static void division(long[] number, long[] by, Object divider) throws Exception {
        Object rest = big(number);
        Object divisor = big(by);
        BigInteger n = value(rest);
        BigInteger d = value(divisor);
        call(divider, "divide", rest, divisor);
        BigInteger quotient = value(field(divider, "quotient").get(divider));
        same("divisor of " + n, value(divisor), d);
        if (d.signum() == 0) {
            same(n + " by 0", quotient, BigInteger.ZERO);
            return;
        }
        same(n + " by " + d, quotient, n.divide(d));
        same(n + " rest of " + d, value(rest), n.mod(d));
    }

    private static void sums(long[] one, long[] other) throws Exception {
        BigInteger x = value(big(one));
        BigInteger y = value(big(other));
        Object product = make(BIG, 24);
        call(product, "setProduct", big(one), big(other));
        same(x + " times " + y, value(product), x.multiply(y));
        long factor = 1 + pick(BASE - 1);
        Object sum = big(one);
        call(sum, "addTimes", big(other), factor);
        same(x + " plus " + factor + " times " + y, value(sum), x.add(y.multiply(BigInteger.valueOf(factor))));
        Object greater = big(x.compareTo(y) < 0 ? other : one);
        call(greater, "subtract", big(x.compareTo(y) < 0 ? one : other));
        same(x + " less " + y, value(greater), x.subtract(y).abs());
        DUE.is("compare", (Integer) call(big(one), "compareWith", big(other)), x.compareTo(y));
        DUE.is("rest", (Integer) call(big(one), "rest", (int) factor), x.mod(BigInteger.valueOf(factor)).longValue());
        for (int limb = 0; limb < 12; limb++) {
            long want = x.shiftRight(32 * limb).longValue() & 0xFFFFFFFFL;
            DUE.is(x + ", limb " + limb, (Long) call(big(one), "bitsOfLimb", limb), want);
        }
    }

    private static void smallSteps(long[] digits) throws Exception {
        BigInteger x = value(big(digits));
        long small = pick(BASE);
        Object number = big(digits);
        call(number, "times", small);
        same(x + " times " + small, value(number), x.multiply(BigInteger.valueOf(small)));
        number = big(digits);
        long rest = (Long) call(number, "divideSmall", small + 1);
        BigInteger[] due = x.divideAndRemainder(BigInteger.valueOf(small + 1));
        same(x + " by " + (small + 1), value(number), due[0]);
        DUE.is(x + " rest of " + (small + 1), rest, due[1].longValue());
    }

    public static void main(String[] args) throws Exception {
        Object divider = make(DIVIDER);
        for (int i = 0; i < 60000; i++) {
            division(someDigits(10), someDigits(6), divider);
        }
        for (int i = 0; i < 4000; i++) {
            sums(someDigits(8), someDigits(8));
            smallSteps(someDigits(8));
        }
        DUE.end();
    }
}
