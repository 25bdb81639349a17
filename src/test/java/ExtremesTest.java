import java.lang.reflect.InvocationTargetException;
import java.lang.reflect.Method;
import java.lang.reflect.Modifier;
import java.util.ArrayList;
import java.util.Arrays;
import java.util.Comparator;
import java.util.List;

/**
 * Each call of the face with the greatest and the least numbers as any of its arguments, beside small
 * ones, in a town that has nothing, in one that has something of everything, and in one that has as much
 * as may be: no call throws, and each answers as the model.
 */
public final class ExtremesTest {
    private static final int MIN = Integer.MIN_VALUE;
    private static final int MAX = Integer.MAX_VALUE;
    private static final Object[] INTS = {MIN, MIN + 1, -1, 0, 1, 2, MAX - 1, MAX};
    private static final Object[] LONGS = {Long.MIN_VALUE, Long.MIN_VALUE + 1, (long) MIN - 1, (long) MIN, -65536L, -32769L, -1L, 0L,
        1L, 32768L, 65536L, (long) MAX, MAX + 1L, 1L << 32, Long.MAX_VALUE - 1, Long.MAX_VALUE};
    private static final Object[] BOOLEANS = {true, false};
    private static final int TOWNS = 3;

    private static final Due due = new Due("ExtremesTest");
    private static Desk desk;

    public static void main(String[] args) throws ReflectiveOperationException {
        Method[] face = LampRound.class.getDeclaredMethods();
        Arrays.sort(face, Comparator.comparing(Method::getName));
        int calls = 0;
        for (Method m : face) {
            if (!Modifier.isPublic(m.getModifiers())) continue;
            Method same = Desk.class.getDeclaredMethod(m.getName(), m.getParameterTypes());
            for (int town = 0; town < TOWNS; town++) calls += callAll(same, town);
        }
        due.is("all of the face was called", calls > 3000 ? 1 : 0, 1);
        due.end();
    }

    private static int callAll(Method m, int town) throws IllegalAccessException {
        List<Object[]> all = new ArrayList<>();
        argumentsFrom(0, m.getParameterTypes(), new Object[m.getParameterCount()], all);
        desk = null;
        for (Object[] args : all) {
            if (desk == null || desk.left() < 1) desk = built(town);
            try {
                m.invoke(desk, args);
            } catch (InvocationTargetException e) {
                due.fault(m.getName() + Arrays.toString(args) + " threw " + e.getCause());
                desk = null;
            }
        }
        return all.size();
    }

    private static void argumentsFrom(int k, Class<?>[] types, Object[] begun, List<Object[]> all) {
        if (k == types.length) {
            all.add(begun.clone());
            return;
        }
        Object[] values = types[k] == int.class ? INTS : types[k] == long.class ? LONGS : BOOLEANS;
        for (Object v : values) {
            begun[k] = v;
            argumentsFrom(k + 1, types, begun, all);
        }
    }

    private static Desk built(int town) {
        Desk x = due.desk();
        if (town == 1) someOfEverything(x);
        if (town == 2) asMuchAsMayBe(x);
        return x;
    }

    private static void someOfEverything(Desk x) {
        for (int i = 0; i < 6; i++) x.lane(i, (i + 1) % 6, 3 + i);
        for (int r = 0; r < 3; r++) x.row(r, r == 0 ? 1 : r, 2);
        for (int kind = 0; kind <= 4; kind++) x.lamp(kind, kind, 0);
        x.price(2, 5);
        for (int l = 0; l < 5; l++) x.put(l);
        x.line(1, 0, 1);
        x.line(2, 0, 0);
        x.line(2, 0, 0);
    }

    /** All lanes, lamps and numbers of rows, a whole told round; the lines grow by what prove() writes. */
    private static void asMuchAsMayBe(Desk x) {
        for (int i = 0; i < 100; i++) x.lane(i % 39, 39, 1 + i);
        for (int r = 0; r < 4; r++) x.row(r, r == 0 ? 1 : r % 3, 50);
        for (int i = 0; i < 12; i++) x.lamp(28 + i, i % 5, 0);
        for (int l = 0; l < 12; l++) x.put(l);
        x.price(11, 100000);
        for (int i = 0; i < 12; i++) x.line(1, i, i + 1);
        x.walk(28, 27, 1);
    }
}
