import java.lang.reflect.InvocationTargetException;
import java.lang.reflect.Method;
import java.lang.reflect.Modifier;
import java.util.Arrays;
import java.util.Random;

/**
 * Promises 2 to 30: no call throws, for any arguments in any state, also of an object that is used
 * longer than the document speaks of; and each answer is one that the document could mean.
 */
public final class NeverThrowsTest {
    private static final Due DUE = new Due();
    private static final int[] NUMBERS = {Integer.MIN_VALUE, Integer.MIN_VALUE + 1, -1000000, -257, -129, -10, -9, -7, -6, -5, -2,
        -1, 0, 1, 2, 3, 4, 5, 6, 7, 8, 9, 10, 14, 20, 21, 31, 32, 33, 59, 60, 61, 64, 97, 99, 100, 126, 127, 150, 151, 255, 256,
        507, 999, 1000, 3000, 8002, 9999, 10000, 10005, 10006, 65536, 65537, Integer.MAX_VALUE - 1, Integer.MAX_VALUE};

    public static void main(String[] args) {
        for (int seed = 0; seed < 60 && DUE.allRight(); seed++) {
            any(new StoneGhosts(), new Random(seed), 600);
            any(busy(seed), new Random(seed), 600);
        }
        any(busy(1), new Random(-1), 200000);
        any(new StoneGhosts(), new Random(-2), 200000);
        DUE.end();
    }

    private static StoneGhosts busy(int seed) {
        StoneGhosts x = new StoneGhosts();
        for (int s = 0; s < 5; s++) x.stone(s, 3000 + 37 * seed % 7000, seed % 22, seed % 21);
        x.picture(seed % 8, 1 + seed, 1 + seed % 9, seed);
        Due.shop(x, "aAbBcCdDeEa9b8c7d6");
        Due.write(x, seed % 3 == 0 ? "a9b+c" : seed % 3 == 1 ? "a9ax" : "ax9a1");
        x.seen(seed % 8, 10 * seed, true);
        return x;
    }

    /** Calls of any method with any numbers; signs that make a SHOP a little more often. */
    private static void any(StoneGhosts x, Random draws, int calls) {
        Method[] all = StoneGhosts.class.getDeclaredMethods();
        Arrays.sort(all, (a, b) -> a.getName().compareTo(b.getName()));
        for (int i = 0; i < calls && DUE.allRight(); i++) {
            Method m = all[draws.nextInt(all.length)];
            if (!Modifier.isPublic(m.getModifiers())) continue;
            if (draws.nextInt(9) == 0) Due.write(x, draws.nextBoolean() ? "aw9" : "b1");
            Object[] with = new Object[m.getParameterCount()];
            for (int j = 0; j < with.length; j++) {
                boolean isInt = m.getParameterTypes()[j] == int.class;
                int v = draws.nextInt(3) == 0 ? draws.nextInt() : NUMBERS[draws.nextInt(NUMBERS.length)];
                with[j] = isInt ? (Object) (draws.nextInt(3) == 0 ? draws.nextInt(10) : v) : (Object) draws.nextBoolean();
            }
            ask(x, m, with);
        }
    }

    private static void ask(StoneGhosts x, Method m, Object[] with) {
        String call = m.getName() + Arrays.toString(with);
        try {
            long got = ((Number) m.invoke(x, with)).longValue();
            boolean fraction = m.getName().equals("crack");
            boolean refusal = fraction ? got == StoneGhosts.GONE - 1 || got == StoneGhosts.GONE - 2 : got >= -6 && got < 0;
            DUE.holds(call + " answered " + got, got >= 0 || refusal);
        } catch (InvocationTargetException thrown) {
            DUE.holds(call + " threw " + thrown.getCause(), false);
        } catch (IllegalAccessException e) {
            DUE.holds(call + " can not be called", false);
        }
    }
}
