import java.io.IOException;
import java.lang.reflect.Method;
import java.util.ArrayList;
import java.util.List;

/** No sentence of a promise is without a test: what no test quotes of it is but joining words. */
public final class QuotesTest {
    private static final Class<?>[] TESTS = {
        LanesEdgesTest.class, LampsEdgesTest.class, RoundsEdgesTest.class, ProofsEdgesTest.class};

    public static void main(String[] args) throws IOException {
        Due due = new Due("QuotesTest");
        Document document = new Document();
        for (int promise = 1; promise <= Document.PROMISES; promise++) {
            String left = unquoted(document.section(promise), quotesOf(promise));
            if (!left.isEmpty()) due.fault("promise " + promise + " has no test for: " + left);
        }
        due.end();
    }

    private static List<String> quotesOf(int promise) {
        List<String> quotes = new ArrayList<>();
        for (Class<?> test : TESTS) {
            for (Method m : test.getDeclaredMethods()) {
                Says says = m.getAnnotation(Says.class);
                if (says != null && says.promise() == promise) quotes.addAll(List.of(says.value()));
            }
        }
        return quotes;
    }

    private static String unquoted(String section, List<String> quotes) {
        boolean[] quoted = new boolean[section.length()];
        for (String q : quotes) {
            for (int at = section.indexOf(q); at >= 0; at = section.indexOf(q, at + 1)) {
                for (int k = at; k < at + q.length(); k++) quoted[k] = true;
            }
        }
        StringBuilder left = new StringBuilder();
        for (int k = 0; k < quoted.length; k++) left.append(quoted[k] ? ' ' : section.charAt(k));
        // The heading and the call's head are no sentences.
        return left.toString().replaceAll("^Promise \\d+: [a-zA-Z ]*?(`[^`]*`|(?= {3}))", "")
                .replaceAll("\\bor\\b|\\band\\b|[,;:.]", " ").trim();
    }
}
