import java.lang.reflect.InvocationTargetException;
import java.lang.reflect.Method;
import java.lang.reflect.Modifier;

/** No call may throw, whatever it is given, in any state; what is BAD must answer so. */
public final class WildTest {
    private static final int[] NUMBERS = {Integer.MIN_VALUE, -1000000, -10, -1, 0, 1, 2, 3, 4, 5, 6, 9, 10, 11,
        150, 255, 300, 301, 720, 721, 1 << 16, Integer.MAX_VALUE};
    private static final String[] TEXTS = {"", "p0 0 0 0;", "p9 9 9 9;p0 0 0 0;b60;b60;b60;b60;b60;",
        "s0 20;s1 20;s2 20;s3 20;p9 9 9 9;p9 9 9 9;p9 9 9 9;p0 9 9 9;g3 0 3;b1;"};

    public static void main(String[] args) throws IllegalAccessException {
        Check check = new Check("WildTest");
        for (String text : TEXTS) {
            for (Method method : UnsaidScales.class.getDeclaredMethods()) {
                if (Modifier.isPublic(method.getModifiers())) {
                    callAll(check, text, method);
                }
            }
        }
        check.end();
    }

    private static void callAll(Check check, String text, Method method) throws IllegalAccessException {
        check.part("'" + text + "' " + method.getName());
        int parameters = method.getParameterCount();
        // Of five parameters all that lie far apart would be five million calls.
        int step = parameters == 5 ? 3 : 1;
        UnsaidScales x = Shops.told(text);
        Object[] given = new Object[parameters];
        int all = 1;
        for (int i = 0; i < parameters; i++) {
            all *= (NUMBERS.length + step - 1) / step;
        }
        for (int code = 0; code < all; code++) {
            int rest = code;
            for (int i = 0; i < parameters; i++) {
                int count = (NUMBERS.length + step - 1) / step;
                given[i] = NUMBERS[rest % count * step];
                rest /= count;
            }
            call(check, x, method, given);
        }
    }

    private static void call(Check check, UnsaidScales x, Method method, Object[] given)
            throws IllegalAccessException {
        try {
            Object answer = method.invoke(x, given);
            check.that("an answer is a number", answer instanceof Integer || answer instanceof Long);
        } catch (InvocationTargetException thrown) {
            check.that("it threw " + thrown.getCause() + " for " + java.util.Arrays.toString(given), false);
        }
    }
}
