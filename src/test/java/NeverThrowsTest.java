import java.lang.reflect.Method;
import java.lang.reflect.Modifier;
import java.util.Arrays;
import java.util.Comparator;

/** Rule 7: no call throws, for any arguments in any state; and what is none such is refused. */
public final class NeverThrowsTest {
    private static final int[] ODD = {Integer.MIN_VALUE, Integer.MIN_VALUE + 1, -65536, -33, -32, -13, -2, -1, 0, 1, 2, 3, 5, 6, 7, 9, 10, 11,
        12, 13, 19, 20, 21, 22, 23, 24, 31, 32, 33, 60, 88, 255, 256, 999, 1000, 1599, 1600, 1601, 65535, Integer.MAX_VALUE - 1, Integer.MAX_VALUE};

    public static void main(String[] args) throws ReflectiveOperationException {
        Check c = new Check("NeverThrowsTest");
        for (int run = 0; run < 120; run++) {
            Towns lot = new Towns(90000 + run);
            TenthMan x = new TenthMan();
            if (run % 4 != 0) {
                Check.town(x, lot.text(run % 4 == 1 ? 6 : 12));
            }
            for (int i = 0; i < 500; i++) {
                call(c, x, lot);
            }
        }
        c.end();
    }

    private static void call(Check c, TenthMan x, Towns lot) throws ReflectiveOperationException {
        Method[] methods = TenthMan.class.getDeclaredMethods();
        Arrays.sort(methods, Comparator.comparing(Method::getName));
        Method method = methods[lot.below(methods.length)];
        if (!Modifier.isPublic(method.getModifiers())) {
            return;
        }
        Class<?>[] types = method.getParameterTypes();
        Object[] values = new Object[types.length];
        for (int i = 0; i < values.length; i++) {
            values[i] = types[i] == int.class ? (Object) ODD[lot.below(ODD.length)] : (Object) (lot.below(2) == 0);
        }
        Object answer = method.invoke(x, values);
        if (answer instanceof Integer number) {
            c.due(method.getName() + " answers NONE or more", true, number >= -1);
        }
    }
}
