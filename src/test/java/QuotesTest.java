import java.io.IOException;
import java.lang.reflect.Method;
import java.util.ArrayList;
import java.util.List;

/** No sentence of Terms or of a promise is without a test: what no test quotes of it is but joining words. */
public final class QuotesTest {
    private static final Class<?>[] TESTS = {
        LanesEdgesTest.class, LampsEdgesTest.class, RoundsEdgesTest.class, ProofsEdgesTest.class};

    public static void main(String[] args) throws IOException {
        Due due = new Due("QuotesTest");
        Document document = new Document();
        allIsQuoted(due, "Terms", terms(document.section(0)), 0);
        for (int promise = 1; promise <= Document.PROMISES; promise++) {
            allIsQuoted(due, "promise " + promise, document.section(promise), promise);
        }
        due.end();
    }

    private static void allIsQuoted(Due due, String what, String section, int promise) {
        String left = unquoted(section, quotesOf(promise));
        if (!left.isEmpty()) due.fault(what + ": no test for: " + left);
    }

    /** Terms 1 to 4; RefusalsTest and FaceTest hold what stands behind them. */
    private static String terms(String section) {
        int from = section.indexOf("## Terms");
        int to = section.indexOf("A call that is refused");
        return from < 0 || to < from ? section : section.substring(from, to);
    }

    private static List<String> quotesOf(int promise) {
        List<String> quotes = new ArrayList<>();
        for (Class<?> test : TESTS) {
            for (Method m : test.getDeclaredMethods()) {
                Says says = m.getAnnotation(Says.class);
                if (says != null && says.promise() == promise) quotes.addAll(List.of(says.value()));
            }
        }
        return quotes;
    }

    private static String unquoted(String section, List<String> quotes) {
        boolean[] quoted = new boolean[section.length()];
        for (String q : quotes) {
            for (int at = section.indexOf(q); at >= 0; at = section.indexOf(q, at + 1)) {
                for (int k = at; k < at + q.length(); k++) quoted[k] = true;
            }
        }
        StringBuilder left = new StringBuilder();
        for (int k = 0; k < quoted.length; k++) left.append(quoted[k] ? ' ' : section.charAt(k));
        // Headings, the call's head and the numbers of Terms are no sentences.
        return left.toString().replaceAll("^## Terms|(?<= )[1-4](?=\\.)", "")
                .replaceAll("^Promise \\d+: [a-zA-Z ]*?(`[^`]*`|(?= {3}))", "")
                .replaceAll("\\bor\\b|\\band\\b|[,;:.]", " ").trim();
    }
}
