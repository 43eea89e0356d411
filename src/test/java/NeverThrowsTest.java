import java.lang.reflect.InvocationTargetException;
import java.lang.reflect.Method;
import java.lang.reflect.Modifier;
import java.util.Arrays;

/** No call throws, whatever its numbers: each call with each choice of numbers at and around the bounds, in four states. */
public final class NeverThrowsTest {
    private static final int[] EDGES = {
        Integer.MIN_VALUE, Integer.MIN_VALUE + 1, -2, -1, 0, 1, 2, 3, 4, 8, 15, 20, 39, 40, 41, 200,
        Integer.MAX_VALUE - 1, Integer.MAX_VALUE,
    };
    /** A new object is taken so often that none comes near its 512th call. */
    private static final int CALLS = 256;
    private static final Twin.Made[] STATES = {
        x -> { },
        Twin::rich,
        x -> Check.tell(x, "half 1;window 20;plain 1;twice 20;signs 15 0 15 0 15 0 15 0 15 0 15 0 15 0 15 0;jam 0 40;jam 99 40;"),
        x -> {
            Twin.rich(x);
            x.back(1);
            x.cut(0);
            x.sheet(1, 1, 39);
            x.sheet(3, 2, 0);
        },
    };

    private static int calls = 0;

    public static void main(String[] args) throws Exception {
        for (Method m : WatchDogs.class.getDeclaredMethods()) {
            if (Modifier.isPublic(m.getModifiers())) {
                for (Twin.Made made : STATES) {
                    callAll(m, made);
                }
            }
        }
        Check.holds("calls: " + calls, calls > 100000);
        Check.finish();
    }

    private static void callAll(Method m, Twin.Made made) throws Exception {
        int many = 1;
        for (int i = 0; i < m.getParameterCount(); i++) {
            many *= EDGES.length;
        }
        WatchDogs x = Twin.of(made);
        for (int choice = 0; choice < many; choice++) {
            if (choice % CALLS == CALLS - 1) {
                x = Twin.of(made);
            }
            call(m, x, choice);
        }
    }

    private static void call(Method m, WatchDogs x, int choice) throws Exception {
        Object[] numbers = new Object[m.getParameterCount()];
        int rest = choice;
        for (int i = 0; i < numbers.length; i++) {
            numbers[i] = EDGES[rest % EDGES.length];
            rest /= EDGES.length;
        }
        calls++;
        try {
            m.invoke(x, numbers);
        } catch (InvocationTargetException e) {
            Check.holds(m.getName() + Arrays.toString(numbers) + " threw " + e.getCause(), false);
        }
    }
}
