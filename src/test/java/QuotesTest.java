import java.io.IOException;
import java.nio.file.DirectoryStream;
import java.nio.file.Files;
import java.nio.file.Path;
import java.util.regex.Matcher;
import java.util.regex.Pattern;

/** Every word of the document's terms and promises is quoted by a test, and what the tests quote stands there. */
public final class QuotesTest {
    private static final int PROMISES = 39;
    private static final String TEXT = "\"(?:[^\"\\\\]|\\\\.)*\"";

    private static int wrong = 0;
    private static final String[] said = new String[PROMISES + 1];
    private static final boolean[][] quoted = new boolean[PROMISES + 1][];

    private static void fail(String what) {
        wrong++;
        System.out.println(what);
    }

    private static String between(String all, String from, String to) {
        int a = all.indexOf(from);
        int b = a < 0 ? -1 : all.indexOf(to, a + from.length());
        if (b < 0) {
            fail("the document has no '" + from + "' ahead of '" + to + "'");
            return "";
        }
        return all.substring(a + from.length(), b);
    }

    private static String flat(String text) {
        return text.replace("```text", "").replace("```", "").replaceAll("(?m)^Ahead of the calls.*$", "").replaceAll("\\s+", " ").trim();
    }

    private static void readDocument() throws IOException {
        String all = Files.readString(Path.of("../shared/DOC.md"));
        said[0] = flat(between(all, "undone.\n", "## The public face") + between(all, "## Terms", "## Promise 1:"));
        for (int n = 1; n <= PROMISES; n++) {
            String promise = between(all, "## Promise " + n + ":", "\n## ");
            // The heading's name and the signature are the face's, which RulesTest looks at.
            said[n] = flat(promise.replaceFirst("^[^\n]*\n", "").replaceFirst("`[^`]*`:", ""));
        }
        for (int n = 0; n <= PROMISES; n++) {
            quoted[n] = new boolean[said[n].length()];
        }
    }

    private static void mark(String file, int promise, String quote) {
        int at = promise < 0 || promise > PROMISES ? -1 : said[promise].indexOf(quote);
        if (at < 0) {
            fail(file + " quotes what is not said: " + promise + " '" + quote + "'");
        }
        while (at >= 0) {
            for (int i = at; i < at + quote.length(); i++) {
                quoted[promise][i] = true;
            }
            at = said[promise].indexOf(quote, at + 1);
        }
    }

    private static void readTests() throws IOException {
        Pattern says = Pattern.compile("due\\.says\\((\\d+), (" + TEXT + "(?:\\s*\\+ " + TEXT + ")*)\\)");
        try (DirectoryStream<Path> tests = Files.newDirectoryStream(Path.of("src/test/java"), "*.java")) {
            for (Path test : tests) {
                Matcher quotes = says.matcher(Files.readString(test));
                while (quotes.find()) {
                    StringBuilder quote = new StringBuilder();
                    Matcher pieces = Pattern.compile(TEXT).matcher(quotes.group(2));
                    while (pieces.find()) {
                        quote.append(pieces.group(), 1, pieces.group().length() - 1);
                    }
                    mark(test.getFileName().toString(), Integer.parseInt(quotes.group(1)), quote.toString());
                }
            }
        }
    }

    private static void look(int promise) {
        int from = 0;
        String left = said[promise];
        for (int i = 0; i <= left.length(); i++) {
            if (i == left.length() || quoted[promise][i]) {
                if (left.substring(from, i).matches(".*[A-Za-z0-9].*")) {
                    fail("no test quotes of " + (promise == 0 ? "the terms" : "promise " + promise) + ": " + left.substring(from, i));
                }
                from = i + 1;
            }
        }
    }

    public static void main(String[] args) throws IOException {
        readDocument();
        readTests();
        for (int n = 0; n <= PROMISES; n++) {
            look(n);
        }
        System.out.println(wrong == 0 ? "each word of the document is quoted by a test" : wrong + " quotes lack or are wrong");
        if (wrong != 0) {
            System.exit(1);
        }
    }
}
