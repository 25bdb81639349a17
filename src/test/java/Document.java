import java.io.IOException;
import java.nio.file.Files;
import java.nio.file.Path;

/** ../shared/DOC.md by promises, so that a test's quotation can be looked up. */
final class Document {
    static final int PROMISES = 36;

    private final String[] sections = new String[PROMISES + 1];

    Document() throws IOException {
        String text = Files.readString(Path.of("../shared/DOC.md")).replace("```text", " ").replace("```", " ");
        String[] parts = text.split("\n## (?=Promise |Not promised)");
        for (int p = 0; p <= PROMISES; p++) sections[p] = plain(parts[p]);
    }

    private static String plain(String text) {
        return text.replaceAll("\\s+", " ").trim();
    }

    boolean says(int promise, String words) {
        return sections[promise].contains(plain(words));
    }

    String section(int promise) {
        return sections[promise];
    }
}
