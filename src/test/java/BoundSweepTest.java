import java.lang.reflect.InvocationTargetException;
import java.lang.reflect.Method;
import java.lang.reflect.Modifier;

/**
 * LANGUAGE.md, rule 7: no call may ever throw by itself, for any arguments in
 * any state. Each call of the face with every mix of numbers at the edges of the
 * ranges, on a new object, on a full one, and on one with ROWS and a KIND.
 */
public final class BoundSweepTest {
    private static final int[] FEW = {Integer.MIN_VALUE, -1, 0, 1, 8, 24, 101, Integer.MAX_VALUE};
    private static final int[] MANY = {Integer.MIN_VALUE, Integer.MIN_VALUE + 1, -1000, -1, 0, 1, 2, 3, 4, 5, 6, 7, 8, 9, 10,
        20, 21, 23, 24, 99, 100, 101, 999, 1000, Integer.MAX_VALUE - 1, Integer.MAX_VALUE};
    /** So many, that with those of the setup they stay below 512. */
    private static final int CALLS_OF_ONE = 400;
    private static int wrong = 0;

    private static BrickedUpAsBlind made(int state) {
        BrickedUpAsBlind x = new BrickedUpAsBlind();
        for (int d = 0; d < 8 && state > 0; d++) {
            x.keep(d, 1, d, 9);
            x.builds(d, d % 4, 23);
        }
        if (state > 1) {
            x.image();
            x.needs(0, 9);
            x.row(0, 0, 100);
            x.row(1, 1, 24);
            x.row(2, 2, 0);
            x.put(0, 99, 1);
            x.put(1, 23, -32768);
            x.keep(7, 0, 0, 0);
        }
        return x;
    }

    /** The arguments numbered by a count in the base of the numbers. */
    private static Object[] arguments(int[] numbers, int parameters, long count) {
        Object[] arguments = new Object[parameters];
        long rest = count;
        for (int i = 0; i < parameters; i++) {
            arguments[i] = numbers[(int) (rest % numbers.length)];
            rest /= numbers.length;
        }
        return arguments;
    }

    private static void call(BrickedUpAsBlind x, Method m, Object[] arguments) throws IllegalAccessException {
        String thrown = "";
        try {
            m.invoke(x, arguments);
        } catch (InvocationTargetException e) {
            thrown = e.getCause().getClass().getSimpleName();
        }
        boolean isTold = m.getName().equals("element")
                && (thrown.equals("IllegalArgumentException") || thrown.equals("IllegalStateException"));
        if (!thrown.isEmpty() && !isTold) {
            wrong++;
            System.out.println(m.getName() + java.util.Arrays.toString(arguments) + " throws " + thrown);
        }
    }

    private static void sweep(Method m, int state) throws IllegalAccessException {
        int parameters = m.getParameterCount();
        int[] numbers = parameters > 3 ? FEW : MANY;
        long mixes = 1;
        for (int i = 0; i < parameters; i++) {
            mixes *= numbers.length;
        }
        BrickedUpAsBlind x = made(state);
        for (long count = 0; count < mixes; count++) {
            if (count % CALLS_OF_ONE == 0) {
                x = made(state);
            }
            call(x, m, arguments(numbers, parameters, count));
        }
    }

    public static void main(String[] args) throws IllegalAccessException {
        int calls = 0;
        for (Method m : BrickedUpAsBlind.class.getDeclaredMethods()) {
            if (Modifier.isPublic(m.getModifiers())) {
                calls++;
                for (int state = 0; state < 3; state++) {
                    sweep(m, state);
                }
            }
        }
        if (calls != 42) {
            wrong++;
            System.out.println("swept over " + calls + " calls");
        }
        System.out.println(wrong == 0 ? "no call throws by itself" : wrong + " calls throw");
        if (wrong != 0) {
            System.exit(1);
        }
    }
}
