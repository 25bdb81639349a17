import java.lang.reflect.Constructor;
import java.lang.reflect.Field;
import java.lang.reflect.Method;
import java.lang.reflect.Modifier;
import java.util.Arrays;
import java.util.TreeSet;

/** The public face: just the document's constants, constructor and methods (LANGUAGE.md, rule 1). */
public final class FaceTest {
    private static final Due due = new Due("FaceTest");

    private static final String[] CONSTANTS = {
        "NUMBER -1", "FULL -2", "MISSING -3", "STATE -4", "KIND -5", "SIZE -6", "NEVER -7", "LARGE -8",
        "SPENT -9", "APART -10"};

    private static final String[] METHODS = {
        "int lane(int,int,int)", "int open(int,boolean)", "int about(int,int)", "int row(int,int,int)",
        "int cell(int,int,long)", "long told(int,int)", "int lose(int)", "int lay(int,int,int,int)",
        "int way(int,int)", "int walk(int,int,int)", "int lamp(int,int,int)", "int dark(int,boolean)",
        "int twin(int)", "int of(int,int)", "int many(int)", "int least()", "int second()",
        "int with(int,int,boolean)", "int put(int)", "int clear()", "int at(int)", "int length()",
        "int keeps()", "int turn(int,int)", "int better()", "int price(int,int)", "int climb(int)",
        "long bound()", "int taken(int)", "int prove(int)", "int line(int,int,int)",
        "int alter(int,int,int,int)", "int cut(int)", "int shown(int,int)", "int check(int)"};

    public static void main(String[] args) throws IllegalAccessException {
        due.is("face: public and final", LampRound.class.getModifiers(), Modifier.PUBLIC | Modifier.FINAL);
        due.is("face: it extends nothing", LampRound.class.getSuperclass() == Object.class ? 1 : 0, 1);
        due.is("face: it implements nothing", LampRound.class.getInterfaces().length, 0);
        constants();
        constructor();
        methods();
        classesInside();
        fieldsAreFew(LampRound.class);
        for (Class<?> c : LampRound.class.getDeclaredClasses()) fieldsAreFew(c);
        due.end();
    }

    private static void same(String what, TreeSet<String> got, String[] want) {
        TreeSet<String> wanted = new TreeSet<>(Arrays.asList(want));
        if (!got.equals(wanted)) System.out.println(what + " has " + got + ", due is " + wanted);
        due.is(what, got.equals(wanted) ? 1 : 0, 1);
    }

    private static void constants() throws IllegalAccessException {
        TreeSet<String> got = new TreeSet<>();
        for (Field f : LampRound.class.getDeclaredFields()) {
            if (Modifier.isPrivate(f.getModifiers())) continue;
            due.is("face: " + f.getName(), f.getModifiers(), Modifier.PUBLIC | Modifier.STATIC | Modifier.FINAL);
            got.add(f.getName() + " " + f.get(null));
        }
        same("face: constants", got, CONSTANTS);
    }

    private static void constructor() {
        Constructor<?>[] all = LampRound.class.getDeclaredConstructors();
        due.is("face: one constructor", all.length, 1);
        due.is("face: without arguments", all[0].getParameterCount(), 0);
        due.is("face: public", all[0].getModifiers(), Modifier.PUBLIC);
    }

    private static void methods() {
        TreeSet<String> got = new TreeSet<>();
        TreeSet<String> publicNames = new TreeSet<>();
        TreeSet<String> privateNames = new TreeSet<>();
        for (Method m : LampRound.class.getDeclaredMethods()) {
            if (Modifier.isPrivate(m.getModifiers())) {
                privateNames.add(m.getName());
                continue;
            }
            due.is("face: " + m.getName(), m.getModifiers(), Modifier.PUBLIC);
            String told = m.toString().replace("public ", "").replace("LampRound.", "");
            got.add(told);
            publicNames.add(m.getName());
        }
        same("face: methods", got, METHODS);
        for (Class<?> c : LampRound.class.getDeclaredClasses()) {
            for (Method m : c.getDeclaredMethods()) if (Modifier.isPrivate(m.getModifiers())) privateNames.add(m.getName());
        }
        privateNames.retainAll(publicNames);
        due.is("face: private methods with a public one's name", privateNames.size(), 0);
    }

    /** LANGUAGE.md, rule 11: some twenty fields beside its constants. */
    private static void fieldsAreFew(Class<?> c) {
        int fields = 0;
        for (Field f : c.getDeclaredFields()) if (!Modifier.isStatic(f.getModifiers())) fields++;
        due.is("face: fields of " + c.getName(), fields <= 20 ? 1 : 0, 1);
    }

    private static void classesInside() {
        Class<?>[] inside = LampRound.class.getDeclaredClasses();
        due.is("face: at most twelve classes", inside.length < 12 ? 1 : 0, 1);
        for (Class<?> c : inside) {
            due.is("face: " + c.getName() + " is static", Modifier.isStatic(c.getModifiers()) ? 1 : 0, 1);
            due.is("face: " + c.getName() + " isn't public", c.getModifiers() & (Modifier.PUBLIC | Modifier.PROTECTED), 0);
        }
    }
}
