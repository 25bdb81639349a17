import java.io.IOException;
import java.lang.reflect.Field;
import java.lang.reflect.Method;
import java.lang.reflect.Modifier;
import java.nio.file.Files;
import java.nio.file.Path;
import java.util.HashMap;
import java.util.Map;
import java.util.regex.Matcher;
import java.util.regex.Pattern;

/** The calls on README.md's page, played in their order on one object, answer what stands behind them. */
public final class ReadmeTest {
    private static final Pattern BLOCK = Pattern.compile("(?s)```java\n(.*?)```");
    private static final Pattern CALL = Pattern.compile("town\\.(\\w+)\\(([^)]*)\\); +// (-?\\d+)( .*)?");
    private static final String MADE = "LampRound town = new LampRound();";
    private static final int FEWEST_CALLS = 50;

    private static final Due due = new Due("ReadmeTest");
    private static final Map<String, Method> face = new HashMap<>();

    public static void main(String[] args) throws IOException, ReflectiveOperationException {
        String page = Files.readString(Path.of("README.md"));
        for (Method m : Desk.class.getDeclaredMethods()) face.put(m.getName(), m);
        play(page);
        allOfTheFaceIsOn(page);
        due.is("each refusal stands on the page", refusalsOn(page), 10);
        due.is("the one command stands on the page", page.contains("```sh\n.ci/run\n```") ? 1 : 0, 1);
        due.end();
    }

    private static void play(String page) throws ReflectiveOperationException {
        Desk town = due.desk();
        int calls = 0;
        Matcher block = BLOCK.matcher(page);
        while (block.find()) {
            for (String line : block.group(1).split("\n")) {
                if (line.equals(MADE)) continue;
                playLine(town, line);
                calls++;
            }
        }
        due.is("it has calls", calls >= FEWEST_CALLS ? 1 : 0, 1);
    }

    private static void allOfTheFaceIsOn(String page) {
        for (Method m : LampRound.class.getDeclaredMethods()) {
            if (Modifier.isPublic(m.getModifiers()) && !page.contains("town." + m.getName() + "(")) {
                due.fault("the page has no " + m.getName() + "()");
            }
        }
    }

    private static void playLine(Desk town, String line) throws ReflectiveOperationException {
        Matcher call = CALL.matcher(line);
        if (!call.matches() || !face.containsKey(call.group(1))) {
            due.fault("no call and its answer: " + line);
            return;
        }
        Method m = face.get(call.group(1));
        Class<?>[] types = m.getParameterTypes();
        String[] told = call.group(2).isEmpty() ? new String[0] : call.group(2).split(", ");
        if (told.length != types.length) {
            due.fault("other arguments are due: " + line);
            return;
        }
        Object[] args = new Object[types.length];
        for (int i = 0; i < args.length; i++) args[i] = argument(types[i], told[i]);
        due.is(line, ((Number) m.invoke(town, args)).longValue(), Long.parseLong(call.group(3)));
    }

    private static Object argument(Class<?> type, String text) {
        if (type == boolean.class) return Boolean.valueOf(text);
        if (type == long.class) return Long.valueOf(text);
        return Integer.valueOf(text);
    }

    private static int refusalsOn(String page) throws IllegalAccessException {
        int found = 0;
        for (Field f : LampRound.class.getFields()) {
            if (page.contains("| `" + f.getName() + "` | " + f.get(null) + " |")) found++;
        }
        return found;
    }
}
