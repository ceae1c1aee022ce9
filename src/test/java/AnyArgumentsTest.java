import java.lang.reflect.InvocationTargetException;
import java.lang.reflect.Method;
import java.lang.reflect.Modifier;
import java.util.Arrays;
import java.util.Comparator;
import java.util.Random;

/** Any arguments in any state: a call throws nothing but what its line in the document names. */
public final class AnyArgumentsTest {
    private static final int[] EDGES = {Integer.MIN_VALUE, Integer.MAX_VALUE, -2, -1, 0, 0, 1, 1, 2, 3, 4, 5, 6, 7, 9,
        10, 11, 12, 23, 24, 25, 30, 31, 99, 100, 255, 256, 400, 401, 2000, 4000, 4001, 20000, 20001, 1000000000,
        1000000001, 0x70757420, 0x303b656e, 0x643b2020, 0x20313d31, 0x3b202020, 0x5b5b5b28, 0x6e6f7420};
    private static final String[] WAYS = {"empty 0 4;take 0;put 1;go 0;", "go 0;", "put 0;go 0;",
        "up 0;three 0 0;none 0 3;down 0;", "move 0 1;pair 0 1;say 2;", "put 11;"};
    private static final String[] TASKS = {"now 1=was 0+was 1;", "1/0=0;", "not [said<9 or at 0=at 23];",
        "9999*9999*9999>((((((was 11))))));", "said=1;", "now 0=was 0;"};

    public static void main(String[] args) {
        Method[] methods = Arrays.stream(NothingAboveThree.class.getDeclaredMethods())
                .filter(m -> Modifier.isPublic(m.getModifiers())).toArray(Method[]::new);
        Arrays.sort(methods, Comparator.comparing(Method::getName));
        for (int seed = 1; seed <= 60; seed++) {
            Random random = new Random(seed);
            NothingAboveThree x = Check.in(seed % 2 == 0 ? "heaps 2;places 1;moves;pairs;" : "");
            for (int i = 0; i < seed % 7; i++) {
                Check.way(x, WAYS[i % 6]);
                Check.task(x, TASKS[i % 6]);
            }
            for (int i = 0; i < 480; i++) {
                call(x, methods[random.nextInt(methods.length)], random);
            }
        }
        Check.end();
    }

    private static void call(NothingAboveThree x, Method m, Random random) {
        Object[] given = new Object[m.getParameterCount()];
        for (int i = 0; i < given.length; i++) {
            int edge = random.nextInt(3) == 0 ? random.nextInt(5) : EDGES[random.nextInt(EDGES.length)];
            Class<?> type = m.getParameterTypes()[i];
            given[i] = type == boolean.class ? (Object) random.nextBoolean()
                    : type == long.class ? (Object) random.nextLong() : (Object) edge;
        }
        Check.due(true, m.getName() + Arrays.toString(given), () -> isFine(x, m, given));
    }

    private static boolean isFine(NothingAboveThree x, Method m, Object[] given) {
        try {
            m.invoke(x, given);
            return true;
        } catch (InvocationTargetException e) {
            // a throw statement stands in the class itself: nothing of the machine or the library
            StackTraceElement[] trace = e.getCause().getStackTrace();
            boolean own = trace.length > 0 && trace[0].getMethodName().matches("refuse\\w*|the(Way|Task)");
            return own && Arrays.asList(m.getExceptionTypes()).contains(e.getCause().getClass());
        } catch (IllegalAccessException e) {
            return false;
        }
    }
}
