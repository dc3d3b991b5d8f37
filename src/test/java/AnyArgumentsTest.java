import java.lang.reflect.InvocationTargetException;
import java.lang.reflect.Method;
import java.lang.reflect.Modifier;
import java.util.ArrayList;
import java.util.Arrays;
import java.util.Comparator;
import java.util.List;
import java.util.NoSuchElementException;
import java.util.Random;

/**
 * No call throws by itself, for any arguments in any state (LANGUAGE.md, rule 7), not even behind the
 * 512th, whose answers are free: only corner and box throw, and only NoSuchElementException.
 */
public final class AnyArgumentsTest {
    private static final int OBJECTS = 60;
    private static final int CALLS = 4000;
    private static final int[] BOUNDS = {0, 1, 3, 4, 5, 6, 8, 9, 29, 30, 50, 59, 60, 99, 100, 299, 300, 333, 334,
        500, 501, 600, 601, 2000, 2001, 3000, 3001, 19999, 20000, 20001, 46341, 65535, 65536, Integer.MAX_VALUE};

    public static void main(String[] args) throws IllegalAccessException {
        List<Method> calls = new ArrayList<>();
        for (Method m : CoastWatch.class.getDeclaredMethods()) {
            if (Modifier.isPublic(m.getModifiers())) {
                calls.add(m);
            }
        }
        // The machine lists them in no order that it promises.
        calls.sort(Comparator.comparing(Method::getName));
        for (int seed = 0; seed < OBJECTS; seed++) {
            run(seed, calls);
        }
        Due.end();
    }

    private static void run(int seed, List<Method> calls) throws IllegalAccessException {
        Random random = new Random(seed);
        CoastWatch watch = new CoastWatch();
        for (int i = 0; i < CALLS; i++) {
            Method m = calls.get(random.nextInt(calls.size()));
            Object[] given = new Object[m.getParameterCount()];
            for (int g = 0; g < given.length; g++) {
                given[g] = draw(random, seed % 3);
            }
            Due.is("object " + seed + ": " + m.getName() + Arrays.toString(given), isAsTold(watch, m, given), true);
        }
    }

    private static int draw(Random random, int kind) {
        int which = random.nextInt(kind == 0 ? 2 : 12);
        if (which == 0) {
            return random.nextInt();
        }
        if (which == 1) {
            int bound = BOUNDS[random.nextInt(BOUNDS.length)];
            return random.nextBoolean() ? bound : -bound;
        }
        return random.nextInt(which < 9 ? 4 : 120) - (which == 10 ? 60 : 0);
    }

    private static boolean isAsTold(CoastWatch watch, Method m, Object[] given) throws IllegalAccessException {
        try {
            m.invoke(watch, given);
            return true;
        } catch (InvocationTargetException e) {
            boolean may = m.getName().equals("corner") || m.getName().equals("box");
            return may && e.getCause().getClass() == NoSuchElementException.class;
        }
    }
}
