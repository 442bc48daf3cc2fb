import java.io.IOException;
import java.nio.file.DirectoryStream;
import java.nio.file.Files;
import java.nio.file.Path;
import java.util.regex.Matcher;
import java.util.regex.Pattern;

/**
 * Each sentence that a test quotes stands in the document word for word, and what no test quotes of the Terms and
 * promises names no bound: no number, no "at most", "at first", "cut", "none", "nothing". Runs at the checkout's root.
 */
public final class QuotesTest {
    private static final Due due = new Due("QuotesTest");
    private static final Pattern QUOTE = Pattern.compile("due\\.sentence\\(\"((?:[^\"\\\\]|\\\\.)*)\"\\);");
    private static final Pattern BOUND = Pattern.compile("\\d|at most|at first|\\bcut\\b|\\bnone\\b|\\bnothing\\b");

    private final String document;
    private final boolean[] quoted;

    private QuotesTest(String document) {
        this.document = document;
        quoted = new boolean[document.length()];
    }

    public static void main(String[] args) throws IOException {
        String text = Files.readString(Path.of("../shared/DOC.md"));
        QuotesTest test = new QuotesTest(inOneLine(text.replace("```text", "").replace("```", "")));
        try (DirectoryStream<Path> files = Files.newDirectoryStream(Path.of("src/test/java"), "*Test.java")) {
            for (Path file : files) {
                test.quotesOf(file);
            }
        }
        test.whatNobodyQuotes();
        due.end();
    }

    private static String inOneLine(String text) {
        return text.replaceAll("\\s+", " ");
    }

    private void quotesOf(Path file) throws IOException {
        Matcher m = QUOTE.matcher(Files.readString(file));
        while (m.find()) {
            String quote = m.group(1);
            due.holds("\"" + quote + "\" of " + file.getFileName() + " stands in the document", document.contains(quote));
            for (int at = document.indexOf(quote); at >= 0; at = document.indexOf(quote, at + 1)) {
                java.util.Arrays.fill(quoted, at, at + quote.length(), true);
            }
        }
    }

    private void whatNobodyQuotes() {
        int end = document.indexOf("## Not promised");
        int at = document.indexOf("## Terms");
        due.holds("the Terms and promises are found", at >= 0 && end > at);
        while (at < end) {
            int from = at;
            while (at < end && quoted[at] == quoted[from]) {
                at++;
            }
            if (!quoted[from]) {
                String part = withoutHeadings(document.substring(from, at));
                due.holds("a test quotes what names a bound in \"" + part.trim() + "\"", !BOUND.matcher(part).find());
            }
        }
    }

    private static String withoutHeadings(String part) {
        return part.replaceAll("## Promise \\d+: \\w+( object)?", "").replaceAll("======== \\d", "")
            .replaceAll("\\(pence, at PRICE for 100\\)", "").replaceAll("`[^`]*`", "");
    }
}
