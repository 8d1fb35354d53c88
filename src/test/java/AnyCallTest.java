import java.lang.reflect.InvocationTargetException;
import java.lang.reflect.Method;
import java.lang.reflect.Modifier;
import java.util.ArrayList;
import java.util.Arrays;
import java.util.Comparator;
import java.util.List;

/**
 * Rules 7 and 11 of LANGUAGE.md: no arguments in any state make a call throw, and the same calls give the
 * same answers. What an object answers after 512 calls is free, but it must not throw there either, so the
 * objects here are used far beyond that.
 */
public final class AnyCallTest {
    private static final int[] NUMBERS = {Integer.MIN_VALUE, Integer.MIN_VALUE + 1, -401, -101, -4, -1, 0, 1, 2, 3, 4, 5,
        8, 9, 31, 32, 33, 100, 101, 399, 400, 401, 402, 1604, Integer.MAX_VALUE - 1, Integer.MAX_VALUE};
    /** With a sequence's number that is no sequence every call ends at once; this many are enough for a state. */
    private static final int[] SEQUENCES = {Integer.MIN_VALUE, -1, 0, 1, 2, 3, 4, Integer.MAX_VALUE};
    private static final int LONG_RUN = 200_000;
    /** 401 * 117817058 wraps around to 2 in an int: a test of the index in place of the number would let it pass. */
    private static final int WRAPS = 117817058;

    private static int wrong = 0;
    private static long seed = 20261116L;

    public static void main(String[] args) throws IllegalAccessException {
        List<Method> calls = calls();
        for (int state = 0; state <= 8; state++) {
            RecurrenceEngine one = inState(state);
            RecurrenceEngine other = inState(state);
            for (Method call : calls) {
                everyArgument(one, other, call);
            }
        }
        longRun(calls);
        if (wrong != 0) {
            System.exit(1);
        }
    }

    /** In a fixed order, as that of reflection is free. */
    private static List<Method> calls() {
        List<Method> calls = new ArrayList<>();
        for (Method m : RecurrenceEngine.class.getDeclaredMethods()) {
            if (Modifier.isPublic(m.getModifiers())) {
                calls.add(m);
            }
        }
        calls.sort(Comparator.comparing(Method::getName));
        return calls;
    }

    /** All four sequences have this order: ones far from the start, or sums of sums. */
    private static RecurrenceEngine inState(int order) {
        RecurrenceEngine x = new RecurrenceEngine();
        for (int s = 0; s < 4 && order > 0; s++) {
            x.define(s, 1, 0, 1 + s);
            for (int i = 1; i < order; i++) {
                if (s % 2 == 0) {
                    x.prepend(s, 0);
                } else {
                    x.accumulate(s);
                }
            }
        }
        return x;
    }

    private static void everyArgument(RecurrenceEngine one, RecurrenceEngine other, Method call)
        throws IllegalAccessException {
        int count = call.getParameterCount();
        int[][] choices = new int[count][];
        int all = 1;
        for (int i = 0; i < count; i++) {
            choices[i] = takesSequence(call, i) ? SEQUENCES : NUMBERS;
            all *= choices[i].length;
        }
        for (int number = 0; number < all; number++) {
            Object[] values = new Object[count];
            int rest = number;
            for (int i = 0; i < count; i++) {
                values[i] = choices[i][rest % choices[i].length];
                rest /= choices[i].length;
            }
            compare(one, other, call, values);
        }
    }

    private static boolean takesSequence(Method call, int parameter) {
        return parameter == 0 || call.getName().equals("add") || parameter == 1 && call.getName().matches("copy|equal");
    }

    private static void longRun(List<Method> calls) throws IllegalAccessException {
        RecurrenceEngine one = new RecurrenceEngine();
        RecurrenceEngine other = new RecurrenceEngine();
        for (int i = 0; i < LONG_RUN; i++) {
            Method call = calls.get(next(calls.size()));
            Object[] values = new Object[call.getParameterCount()];
            for (int j = 0; j < values.length; j++) {
                values[j] = takesSequence(call, j) ? sequence() : number();
            }
            compare(one, other, call, values);
        }
    }

    private static int next(int bound) {
        seed = seed * 6364136223846793005L + 1442695040888963407L;
        return (int) ((seed >>> 33) % bound);
    }

    private static int sequence() {
        return next(20) == 0 ? WRAPS * next(3) + next(9) - 4 : next(4);
    }

    private static int number() {
        int kind = next(4);
        return kind == 0 ? NUMBERS[next(NUMBERS.length)] : kind == 1 ? next(5) : kind == 2 ? next(401) : next(1 << 30) * 4;
    }

    private static void compare(RecurrenceEngine one, RecurrenceEngine other, Method call, Object[] values)
        throws IllegalAccessException {
        Object got = ask(one, call, values);
        Object again = ask(other, call, values);
        if (got != null && again != null && !got.equals(again)) {
            fault(call, values, "answered " + got + " and " + again);
        }
    }

    private static Object ask(RecurrenceEngine x, Method call, Object[] values) throws IllegalAccessException {
        try {
            return call.invoke(x, values);
        } catch (InvocationTargetException thrown) {
            fault(call, values, "threw " + thrown.getCause());
            return null;
        }
    }

    private static void fault(Method call, Object[] values, String what) {
        wrong++;
        if (wrong <= 20) {
            System.out.println(call.getName() + Arrays.toString(values) + " " + what);
        }
    }
}
