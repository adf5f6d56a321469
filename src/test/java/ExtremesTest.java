import java.lang.reflect.InvocationTargetException;
import java.lang.reflect.Method;
import java.lang.reflect.Modifier;
import java.util.Arrays;
import java.util.List;
import java.util.function.Supplier;

/** Every call with arguments from all over the range of an int, on objects from new to full: none of them throws. */
public final class ExtremesTest {
    private static final int[] VALUES = {Integer.MIN_VALUE, Integer.MIN_VALUE + 1, -1000000001, -200000, -1, 0, 1, 2, 11, 12, 500,
        1000, 2000, 100000, 200000, 1000000, 1000000000, Integer.MAX_VALUE - 1, Integer.MAX_VALUE};

    public static void main(String[] args) throws IllegalAccessException {
        List<Supplier<LouvreCraft>> makers = List.of(LouvreCraft::new, Twins::built, Twins::full, Twins::fullText);
        for (Supplier<LouvreCraft> maker : makers) {
            for (Method method : LouvreCraft.class.getDeclaredMethods()) {
                if (Modifier.isPublic(method.getModifiers())) {
                    all(maker.get(), method);
                    one(maker, method);
                }
            }
        }
        Check.finish();
    }

    /** Calls one after the other on one object: each combination of up to two arguments, and some of more. */
    private static void all(LouvreCraft x, Method method) throws IllegalAccessException {
        int places = method.getParameterCount();
        int combinations = places == 0 ? 1 : places == 1 ? VALUES.length : VALUES.length * VALUES.length;
        for (int i = 0; i < combinations; i++) {
            call(x, method, arguments(method, i, VALUES.length));
        }
    }

    /** A single call on an object of its own, each argument at one end of the ints. */
    private static void one(Supplier<LouvreCraft> maker, Method method) throws IllegalAccessException {
        for (int ends = 0; ends < 1 << method.getParameterCount(); ends++) {
            LouvreCraft x = maker.get();
            Object[] arguments = arguments(method, 0, 1);
            for (int place = 0; place < arguments.length; place++) {
                boolean greatest = (ends >> place & 1) == 1;
                boolean isFlag = method.getParameterTypes()[place] == boolean.class;
                arguments[place] = isFlag ? (Object) greatest : (Object) (greatest ? Integer.MAX_VALUE : Integer.MIN_VALUE);
            }
            call(x, method, arguments);
            call(x, method, arguments);
        }
    }

    private static Object[] arguments(Method method, int number, int base) {
        Object[] arguments = new Object[method.getParameterCount()];
        int rest = number;
        for (int place = 0; place < arguments.length; place++) {
            // From the third place on the value goes by those before it.
            int value = VALUES[place < 2 ? rest % base : (number * (place + 3) + place) % VALUES.length];
            rest /= base;
            arguments[place] = method.getParameterTypes()[place] == boolean.class ? (Object) (value % 2 == 0) : (Object) value;
        }
        return arguments;
    }

    private static void call(LouvreCraft x, Method method, Object[] arguments) throws IllegalAccessException {
        try {
            Object answer = method.invoke(x, arguments);
            Check.due(method.getName(), true, answer != null);
        } catch (InvocationTargetException thrown) {
            Check.due(method.getName() + Arrays.toString(arguments) + " threw " + thrown.getCause(), true, false);
        }
    }
}
