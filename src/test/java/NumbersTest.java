import java.lang.reflect.Constructor;
import java.lang.reflect.Field;
import java.lang.reflect.Method;
import java.math.BigInteger;
import java.util.Random;

/**
 * The class's own numbers against BigInteger, with limbs of all ones and zeros, which reach the
 * corners of division that no game would reach. They are private, so reflection opens them.
 */
public final class NumbersTest {
    private static final int MASK = (1 << 30) - 1;
    private static final Random RANDOM = new Random(7);
    private static final Harness T = new Harness();
    private static Class<?> natural;
    private static Constructor<?> make;
    private static Field limbs;
    private static Field size;

    public static void main(String[] args) throws ReflectiveOperationException {
        natural = Class.forName("ChanceArena$Natural");
        make = natural.getDeclaredConstructor();
        make.setAccessible(true);
        limbs = natural.getDeclaredField("limbs");
        limbs.setAccessible(true);
        size = natural.getDeclaredField("size");
        size.setAccessible(true);
        for (int i = 0; i < 60000; i++) {
            divide();
        }
        for (int i = 0; i < 20000; i++) {
            simple();
            reduce();
        }
        T.finish();
    }

    private static int limb() {
        switch (RANDOM.nextInt(6)) {
            case 0:
                return 0;
            case 1:
                return MASK;
            case 2:
                return RANDOM.nextInt(3);
            case 3:
                return MASK - RANDOM.nextInt(3);
            case 4:
                return 1 << 29;
            default:
                return RANDOM.nextInt(MASK + 1);
        }
    }

    private static BigInteger number(int most) {
        BigInteger found = BigInteger.ZERO;
        int count = 1 + RANDOM.nextInt(most);
        for (int i = 0; i < count; i++) {
            found = found.shiftLeft(30).add(BigInteger.valueOf(limb()));
        }
        return found.signum() == 0 ? BigInteger.ONE : found;
    }

    private static Object of(BigInteger value) throws ReflectiveOperationException {
        Object found = make.newInstance();
        int count = (value.bitLength() + 29) / 30;
        int[] parts = new int[Math.max(4, count)];
        for (int i = 0; i < count; i++) {
            parts[i] = value.shiftRight(30 * i).intValue() & MASK;
        }
        limbs.set(found, parts);
        size.setInt(found, count);
        return found;
    }

    private static BigInteger read(Object number) throws ReflectiveOperationException {
        int[] parts = (int[]) limbs.get(number);
        int count = size.getInt(number);
        BigInteger found = BigInteger.ZERO;
        for (int i = count - 1; i >= 0; i--) {
            if (parts[i] < 0 || parts[i] > MASK || i == count - 1 && parts[i] == 0) {
                return BigInteger.ONE.negate();
            }
            found = found.shiftLeft(30).add(BigInteger.valueOf(parts[i]));
        }
        return found;
    }

    private static Object call(Object on, String name, Object... with) throws ReflectiveOperationException {
        for (Method method : on.getClass().getDeclaredMethods()) {
            Class<?>[] kinds = method.getParameterTypes();
            boolean fits = method.getName().equals(name) && kinds.length == with.length;
            for (int i = 0; fits && i < kinds.length; i++) {
                fits = kinds[i] == int.class ? with[i] instanceof Integer : kinds[i].isInstance(with[i]);
            }
            if (fits) {
                method.setAccessible(true);
                return method.invoke(on, with);
            }
        }
        throw new NoSuchMethodException(name);
    }

    private static void divide() throws ReflectiveOperationException {
        BigInteger a = number(12);
        BigInteger b = number(8);
        if (RANDOM.nextInt(4) == 0) {
            a = a.multiply(b);
        }
        Object rest = of(a);
        Object quotient = make.newInstance();
        call(rest, "divide", of(b), quotient, make.newInstance());
        T.due(a + " / " + b, read(quotient) + " " + read(rest), a.divide(b) + " " + a.mod(b));
    }

    private static void simple() throws ReflectiveOperationException {
        BigInteger a = number(12);
        BigInteger b = number(12);
        int small = 1 + RANDOM.nextInt(MASK);
        BigInteger factor = BigInteger.valueOf(small);
        Object product = make.newInstance();
        call(product, "putProduct", of(a), of(b));
        T.due(a + " * " + b, read(product), a.multiply(b));
        Object sum = of(a);
        call(sum, "add", of(b), small);
        T.due(a + " + " + b + " * " + small, read(sum), a.add(b.multiply(factor)));
        Object times = of(a);
        call(times, "multiply", small);
        T.due(a + " * " + small, read(times), a.multiply(factor));
        T.due(a + " % " + small, call(of(a), "modulo", small), a.mod(factor));
        Object part = of(a);
        T.due(a + " % " + small, call(part, "divideSmall", small), a.mod(factor));
        T.due(a + " / " + small, read(part), a.divide(factor));
        T.due("bits of " + a, call(of(a), "bits"), a.bitLength());
    }

    /** A fraction to least terms, by common divisors of all sizes. */
    private static void reduce() throws ReflectiveOperationException {
        Class<?> scalesClass = Class.forName("ChanceArena$Scales");
        Constructor<?> makeScales = scalesClass.getDeclaredConstructor();
        makeScales.setAccessible(true);
        Class<?> fractionClass = Class.forName("ChanceArena$Fraction");
        Constructor<?> makeFraction = fractionClass.getDeclaredConstructor();
        makeFraction.setAccessible(true);
        Field above = fractionClass.getDeclaredField("above");
        Field below = fractionClass.getDeclaredField("below");
        above.setAccessible(true);
        below.setAccessible(true);
        BigInteger common = number(6);
        BigInteger a = number(9).multiply(common);
        BigInteger b = RANDOM.nextInt(3) == 0 ? a.add(BigInteger.valueOf(RANDOM.nextInt(3))) : number(9).multiply(common);
        Object fraction = makeFraction.newInstance();
        call(above.get(fraction), "put", of(a));
        call(below.get(fraction), "put", of(b));
        call(makeScales.newInstance(), "reduce", fraction);
        BigInteger gcd = a.gcd(b);
        T.due(a + " / " + b + " in least terms", read(above.get(fraction)) + " " + read(below.get(fraction)),
            a.divide(gcd) + " " + b.divide(gcd));
    }
}
