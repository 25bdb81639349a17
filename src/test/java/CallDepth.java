import java.util.HashMap;
import java.util.List;
import java.util.ArrayList;
import java.util.Map;
import java.util.TreeMap;
import java.util.regex.Matcher;
import java.util.regex.Pattern;

/**
 * How deep calls go in the class's text, the public method counted, a method that calls itself counted
 * once. A method is known by its class and name; whose it is at a call, by the name of the field.
 */
final class CallDepth {
    private static final Pattern CLASS = Pattern.compile("^    private static final class (\\w+) \\{");
    private static final Pattern HEAD = Pattern.compile("^( +)(?:\\w+ )*[\\w\\[\\]]+ (\\w+)\\([^()]*\\) \\{$");
    private static final Pattern FIELD = Pattern.compile("\\b([A-Z]\\w+) ([a-z]\\w*)(?= =|;|,|\\))");
    private static final Pattern CALL = Pattern.compile("(?:(\\w+)\\.)?\\b(\\w+)\\(");
    private static final String OUTER = "LampRound";

    private final Map<String, String> bodies = new TreeMap<>();
    private final Map<String, String> classOfName = new HashMap<>();
    private final Map<String, List<String>> paths = new HashMap<>();

    CallDepth(String code) {
        Matcher field = FIELD.matcher(code);
        while (field.find()) classOfName.put(field.group(2), field.group(1));
        String[] lines = code.split("\n", -1);
        String inner = OUTER;
        for (int i = 0; i < lines.length; i++) {
            Matcher c = CLASS.matcher(lines[i]);
            if (c.find()) inner = c.group(1);
            Matcher m = HEAD.matcher(lines[i]);
            if (!m.matches() || lines[i].trim().matches("(if|for|while|switch|else|return).*")) continue;
            StringBuilder body = new StringBuilder();
            for (int k = i + 1; k < lines.length && !lines[k].equals(m.group(1) + "}"); k++) body.append(lines[k]).append('\n');
            bodies.put((m.group(1).length() == 4 ? OUTER : inner) + "." + m.group(2), body.toString());
        }
    }

    int methods() {
        return bodies.size();
    }

    int deepest() {
        return deepestPath().size();
    }

    List<String> deepestPath() {
        List<String> deepest = List.of();
        for (String method : bodies.keySet()) if (pathOf(method).size() > deepest.size()) deepest = pathOf(method);
        return deepest;
    }

    private List<String> pathOf(String method) {
        List<String> known = paths.get(method);
        if (known != null) return known;
        List<String> path = new ArrayList<>(List.of(method));
        // A method that calls itself finds itself here.
        paths.put(method, path);
        List<String> below = List.of();
        Matcher call = CALL.matcher(bodies.get(method));
        while (call.find()) {
            String called = called(method, call.group(1), call.group(2));
            if (called != null && !called.equals(method) && pathOf(called).size() > below.size()) below = pathOf(called);
        }
        path.addAll(below);
        return path;
    }

    private String called(String from, String receiver, String name) {
        if (receiver != null) {
            String method = classOfName.get(receiver) + "." + name;
            return bodies.containsKey(method) ? method : null;
        }
        String own = from.substring(0, from.indexOf('.') + 1) + name;
        if (bodies.containsKey(own)) return own;
        return bodies.containsKey(OUTER + "." + name) ? OUTER + "." + name : null;
    }
}
