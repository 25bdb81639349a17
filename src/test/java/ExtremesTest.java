import java.lang.reflect.InvocationTargetException;
import java.lang.reflect.Method;
import java.lang.reflect.Modifier;
import java.util.ArrayList;
import java.util.Arrays;
import java.util.Comparator;
import java.util.List;

/**
 * Each call of the face with the greatest and the least numbers as any of its arguments, beside small
 * ones, in a town that has something of everything, and in one that has nothing: no call throws, and
 * each answers as the model.
 */
public final class ExtremesTest {
    private static final int MIN = Integer.MIN_VALUE;
    private static final int MAX = Integer.MAX_VALUE;
    private static final Object[] INTS = {MIN, MIN + 1, -1, 0, 1, 2, MAX - 1, MAX};
    private static final Object[] LONGS = {Long.MIN_VALUE, Long.MIN_VALUE + 1, (long) MIN - 1, (long) MIN, -65536L, -32769L, -1L, 0L,
        1L, 32768L, 65536L, (long) MAX, MAX + 1L, 1L << 32, Long.MAX_VALUE - 1, Long.MAX_VALUE};
    private static final Object[] BOOLEANS = {true, false};
    private static final int MOST_BUILT = 60;

    private static final Due due = new Due("ExtremesTest");
    private static Desk desk;

    public static void main(String[] args) throws ReflectiveOperationException {
        Method[] face = LampRound.class.getDeclaredMethods();
        Arrays.sort(face, Comparator.comparing(Method::getName));
        int calls = 0;
        for (Method m : face) {
            if (!Modifier.isPublic(m.getModifiers())) continue;
            Method same = Desk.class.getDeclaredMethod(m.getName(), m.getParameterTypes());
            calls += callAll(same, true);
            callAll(same, false);
        }
        due.is("all of the face was called", calls > 3000 ? 1 : 0, 1);
        due.end();
    }

    private static int callAll(Method m, boolean built) throws IllegalAccessException {
        List<Object[]> all = new ArrayList<>();
        argumentsFrom(0, m.getParameterTypes(), new Object[m.getParameterCount()], all);
        desk = null;
        for (Object[] args : all) {
            if (desk == null || desk.left() < 1) desk = built ? town() : due.desk();
            try {
                m.invoke(desk, args);
            } catch (InvocationTargetException e) {
                due.fault(m.getName() + Arrays.toString(args) + " threw " + e.getCause());
                desk = null;
            }
        }
        return all.size();
    }

    private static void argumentsFrom(int k, Class<?>[] types, Object[] begun, List<Object[]> all) {
        if (k == types.length) {
            all.add(begun.clone());
            return;
        }
        Object[] values = types[k] == int.class ? INTS : types[k] == long.class ? LONGS : BOOLEANS;
        for (Object v : values) {
            begun[k] = v;
            argumentsFrom(k + 1, types, begun, all);
        }
    }

    private static Desk town() {
        Desk x = due.desk();
        for (int i = 0; i < 6; i++) x.lane(i, (i + 1) % 6, 3 + i);
        for (int r = 0; r < 3; r++) x.row(r, r == 0 ? 1 : r, 2);
        for (int kind = 0; kind <= 4; kind++) x.lamp(kind, kind, 0);
        x.price(2, 5);
        for (int l = 0; l < 5; l++) x.put(l);
        x.line(1, 0, 1);
        x.line(2, 0, 0);
        x.line(2, 0, 0);
        if (Desk.CALLS - x.left() > MOST_BUILT) due.fault("the town takes too many calls");
        return x;
    }
}
