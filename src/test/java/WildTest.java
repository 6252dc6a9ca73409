import java.lang.reflect.Method;
import java.lang.reflect.Modifier;
import java.util.ArrayList;
import java.util.Comparator;
import java.util.List;
import java.util.Random;

/** Wild arguments in wild states: no call throws, and the same calls give the same answers. */
public final class WildTest {
    private static final int[] EDGES = {Integer.MIN_VALUE, -2, -1, 0, 1, 2, 3, 4, 9, 11, 12, 24, 31, 59, 60, 61, 99,
        100, 600, 601, 999, 1000, Integer.MAX_VALUE - 1, Integer.MAX_VALUE};

    public static void main(String[] args) throws Exception {
        List<Method> methods = new ArrayList<>();
        for (Method method : DryLand.class.getDeclaredMethods()) {
            if (Modifier.isPublic(method.getModifiers())) {
                methods.add(method);
            }
        }
        methods.sort(Comparator.comparing(Method::getName));
        Random random = new Random(33);
        for (int run = 0; run < 400; run++) {
            DryLand x = new DryLand();
            DryLand same = new DryLand();
            int wildness = random.nextInt(10);
            for (int call = 0; call < 512; call++) {
                Method method = methods.get(random.nextInt(methods.size()));
                Object[] arguments = arguments(method, random, wildness);
                Check.due(method.getName(), answer(method, x, arguments), answer(method, same, arguments));
            }
        }
        Check.end();
    }

    private static Object[] arguments(Method method, Random random, int wildness) {
        Class<?>[] types = method.getParameterTypes();
        Object[] arguments = new Object[types.length];
        for (int k = 0; k < types.length; k++) {
            boolean wild = random.nextInt(10) < wildness && random.nextInt(4) == 0;
            int number = wild ? EDGES[random.nextInt(EDGES.length)] : random.nextInt(1 + random.nextInt(40));
            arguments[k] = types[k] == boolean.class ? (Object) random.nextBoolean() : (Object) number;
        }
        return arguments;
    }

    private static long answer(Method method, DryLand x, Object[] arguments) throws Exception {
        return ((Number) method.invoke(x, arguments)).longValue();
    }
}
