import java.lang.reflect.InvocationTargetException;
import java.lang.reflect.Method;
import java.util.Random;

/**
 * Each method of the face with numbers from far outside to just inside, in objects of several pasts:
 * nothing may be thrown, and the answers are those of the slow Model.
 */
public final class ExtremesTest {
    private static final long[] VALUES = {Integer.MIN_VALUE, Integer.MIN_VALUE + 1, -2, -1, 0, 1, 3, 4, 7, 12, 40, 61, 255,
        Integer.MAX_VALUE - 1, Integer.MAX_VALUE, Long.MIN_VALUE, Long.MAX_VALUE};
    private static final int CALLS = 512;

    private final Random random;
    private EditsMeet real;
    private Model model;

    private ExtremesTest(long seed) {
        random = new Random(seed);
        real = new EditsMeet();
        model = new Model();
    }

    public static void main(String[] args) throws Exception {
        for (int run = 0; run < 200; run++) new ExtremesTest(run).run(run);
        Check.end();
    }

    private void run(int run) throws Exception {
        for (int k = 0; k < run % 4; k++) {
            Check.due("days", real.days(60), model.days(60));
            if (run % 8 > 3) Check.due("meet", real.meet(), model.meet());
        }
        Method[] methods = EditsMeet.class.getDeclaredMethods();
        java.util.Arrays.sort(methods, (a, b) -> a.getName().compareTo(b.getName()));
        for (int call = 0; call < CALLS; call++) {
            Method method = methods[random.nextInt(methods.length)];
            if (!java.lang.reflect.Modifier.isPublic(method.getModifiers())) continue;
            ask(method);
        }
    }

    private void ask(Method method) throws Exception {
        Class<?>[] types = method.getParameterTypes();
        Object[] args = new Object[types.length];
        StringBuilder told = new StringBuilder(method.getName());
        int wild = random.nextInt(types.length + 1);
        for (int i = 0; i < types.length; i++) {
            long v = i == wild || wild == types.length ? VALUES[random.nextInt(VALUES.length)] : random.nextInt(5);
            args[i] = types[i] == long.class ? (Object) v : (Object) (int) v;
            told.append(' ').append(args[i]);
        }
        Method same = Model.class.getDeclaredMethod(method.getName(), types);
        long due = ((Number) same.invoke(model, args)).longValue();
        try {
            Check.due(told.toString(), ((Number) method.invoke(real, args)).longValue(), due);
        } catch (InvocationTargetException thrown) {
            Check.that(told + " throws " + thrown.getCause(), false);
        }
    }
}
