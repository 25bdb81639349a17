import java.io.IOException;
import java.nio.file.Files;
import java.nio.file.Path;
import java.util.regex.Matcher;
import java.util.regex.Pattern;

/** What of LANGUAGE.md can be seen in the text. The argument is the path of LampRound.java. */
public final class LanguageTest {
    private static final Due due = new Due("LanguageTest");
    private static final int LONGEST_METHOD = 60;
    private static final int DEEPEST = 8;

    private static final String[] NOT_THERE = {
        "\\bthrow\\b", "\\btry\\b", "\\bcatch\\b", "\\bsynchronized\\b", "\\bassert\\b", "->", "::",
        "\\bpackage\\b", "\\bSystem\\.(?!arraycopy\\b)", "\\bThread\\b", "Exact\\b", "\\bRandom\\b",
        "\\bArrays\\.(?!(fill|copyOf|copyOfRange)\\b)", "\\bimport (?!java\\.util\\.Arrays;)",
        "\\bstatic \\{", "_VALUE\\b", "\\bObject\\b", "\\bhashCode\\b", "\\btoString\\b", "\\bequals\\b", "[^\\x00-\\x7f]"};

    public static void main(String[] args) throws IOException {
        String text = Files.readString(Path.of(args.length > 0 ? args[0] : "src/main/java/LampRound.java"));
        String code = text.replaceAll("(?s)/\\*.*?\\*/", "").replaceAll("//[^\n]*", "");
        for (String pattern : NOT_THERE) {
            Matcher found = Pattern.compile(pattern).matcher(code);
            due.is("language: " + pattern, found.find() ? 1 : 0, 0);
        }
        staticFieldsAreFinal(code);
        methodsAreShort(code);
        CallDepth calls = new CallDepth(code);
        due.is("language: methods were found", calls.methods() > 100 ? 1 : 0, 1);
        if (calls.deepest() > DEEPEST) due.fault("language: calls go deeper than " + DEEPEST + ": " + calls.deepestPath());
        due.end();
    }

    private static void staticFieldsAreFinal(String code) {
        Matcher field = Pattern.compile("\\bstatic (?!final\\b)[^(\\n]*[;=]").matcher(code);
        due.is("language: static fields are final", field.find() ? 1 : 0, 0);
    }

    /** A method begins with a head that ends in a brace and ends where a brace stands as far in. */
    private static void methodsAreShort(String code) {
        String[] lines = code.split("\n", -1);
        Pattern head = Pattern.compile("^( +)[\\w\\[\\] ]+\\(([^()]*)\\) \\{$");
        for (int i = 0; i < lines.length; i++) {
            Matcher m = head.matcher(lines[i]);
            if (!m.matches() || lines[i].trim().matches("(if|for|while|switch|else).*")) continue;
            int end = i;
            while (end < lines.length && !lines[end].equals(m.group(1) + "}")) end++;
            due.is("language: length of" + lines[i], end - i <= LONGEST_METHOD ? 1 : 0, 1);
            due.is("language: parameters of" + lines[i], m.group(2).split(",").length <= 7 ? 1 : 0, 1);
        }
    }
}
