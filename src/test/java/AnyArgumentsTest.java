import java.lang.reflect.InvocationTargetException;
import java.lang.reflect.Method;
import java.lang.reflect.Modifier;
import java.util.ArrayList;
import java.util.Arrays;
import java.util.Collections;
import java.util.Comparator;
import java.util.List;

/** No call throws, whatever its arguments are and whatever was called before. */
public final class AnyArgumentsTest {
    private static final int LEAST = Integer.MIN_VALUE, MOST = Integer.MAX_VALUE;
    private static final int[] FEW = {LEAST, -1, 0, 1, 3, 8, 60, MOST};
    private static final int[] MANY = {LEAST, LEAST + 1, -1000, -61, -20, -8, -7, -2, -1, 0, 1, 2, 3, 4, 5, 7, 8, 9, 12,
        19, 20, 21, 49, 50, 51, 59, 60, 61, 64, 99, 100, 122, 255, 256, 998, 999, 1000, 9999, 10000, 65535, MOST - 1, MOST};
    private static final Whole.Maker[] MAKERS = {WarnLines::new, Whole::make, Whole::afterNull, Whole::twentyGroups,
        Whole::hundredTellings, Whole::fiftyBytes, Whole::twelveCauses, Whole::noMiddle, Whole::withFaults};

    private static int made = 0;

    private AnyArgumentsTest() {
    }

    public static void main(String[] args) throws IllegalAccessException {
        List<Method> methods = new ArrayList<>();
        for (Method method : WarnLines.class.getDeclaredMethods()) {
            if (Modifier.isPublic(method.getModifiers())) {
                methods.add(method);
            }
        }
        Due.due("calls", methods.size(), 31);
        methods.sort(Comparator.comparing(Method::getName));
        for (int maker = 0; maker < MAKERS.length; maker++) {
            // One object meets all of it, so that what a call leaves meets those behind it.
            WarnLines x = MAKERS[maker].make();
            for (int round = 0; round < 2; round++) {
                for (Method method : methods) {
                    int thrown = callAll(x, method, new Object[method.getParameterCount()], 0);
                    Due.due(method.getName() + " on object " + maker + ": throws", thrown, 0);
                }
                Collections.reverse(methods);
            }
        }
        Due.due("more than half a million calls were made", made > 500_000 ? 1 : 0, 1);
        Due.close();
    }

    private static int callAll(WarnLines x, Method method, Object[] drawn, int next) throws IllegalAccessException {
        if (next == drawn.length) {
            return throwsAny(x, method, drawn);
        }
        int thrown = 0;
        if (method.getParameterTypes()[next] == boolean.class) {
            for (boolean each : new boolean[] {false, true}) {
                drawn[next] = each;
                thrown += callAll(x, method, drawn, next + 1);
            }
            return thrown;
        }
        for (int each : drawn.length < 3 ? MANY : FEW) {
            drawn[next] = each;
            thrown += callAll(x, method, drawn, next + 1);
        }
        return thrown;
    }

    private static int throwsAny(WarnLines x, Method method, Object[] drawn) throws IllegalAccessException {
        made++;
        try {
            method.invoke(x, drawn);
            return 0;
        } catch (InvocationTargetException e) {
            System.out.println(method.getName() + Arrays.toString(drawn) + " threw " + e.getCause());
            return 1;
        }
    }
}
