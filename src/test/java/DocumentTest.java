import java.io.IOException;
import java.nio.file.DirectoryStream;
import java.nio.file.Files;
import java.nio.file.Path;
import java.util.ArrayList;
import java.util.Arrays;
import java.util.List;
import java.util.regex.Matcher;
import java.util.regex.Pattern;

/** Whether the tests quote the document as it is, and leave none of its sentences out. */
public final class DocumentTest {
    private static final Path DOCUMENT = Path.of("../shared/DOC.md"), TESTS = Path.of("src/test/java");
    private static int wrong = 0;

    public static void main(String[] args) throws IOException {
        String said = said(Files.readString(DOCUMENT));
        boolean[] isQuoted = new boolean[said.length()];
        for (String quote : quotes()) {
            if (!mark(said, quote, isQuoted)) {
                wrong++;
                System.out.println("does not stand in the document: " + quote);
            }
        }
        for (String part : leftOut(said, isQuoted)) {
            wrong++;
            System.out.println("no test quotes: " + part);
        }
        System.out.println(wrong == 0 ? "each sentence is quoted" : wrong + " sentences are wrong or left out");
        if (wrong != 0) {
            System.exit(1);
        }
    }

    /** The document in one line, without what promises nothing: headings, heads of methods, marks. */
    private static String said(String document) {
        return document.replaceAll("(?s)## The public face.*?## Terms", "")
            .replaceAll("(?s)## Not promised.*", "")
            .replaceAll("(?m)^Ahead of the calls .*$", "")
            .replaceAll("(?m)^#.*$", "")
            .replaceAll("(?m)^`[^`]*\\)`:", "")
            .replaceAll("(?m)^```.*$", "")
            .replaceAll("(?m)^======== \\d", "")
            .replaceAll("(?m)^Oranges for the one .*======== 1", "")
            .replaceAll("\\s+", " ");
    }

    private static List<String> quotes() throws IOException {
        List<String> quotes = new ArrayList<>();
        try (DirectoryStream<Path> files = Files.newDirectoryStream(TESTS, "*.java")) {
            for (Path file : files) {
                Matcher matcher = Pattern.compile("(?m)^    @Says\\(\"(.*)\"\\)$").matcher(Files.readString(file));
                while (matcher.find()) {
                    quotes.add(matcher.group(1));
                }
            }
        }
        return quotes;
    }

    /** A sentence that stands there more than once is marked wherever it stands. */
    private static boolean mark(String said, String quote, boolean[] isQuoted) {
        int place = said.indexOf(quote);
        boolean isThere = place >= 0;
        while (place >= 0) {
            Arrays.fill(isQuoted, place, place + quote.length(), true);
            place = said.indexOf(quote, place + 1);
        }
        return isThere;
    }

    private static List<String> leftOut(String said, boolean[] isQuoted) {
        StringBuilder left = new StringBuilder();
        for (int i = 0; i < said.length(); i++) {
            left.append(isQuoted[i] ? '\n' : said.charAt(i));
        }
        List<String> parts = new ArrayList<>();
        for (String part : left.toString().split("\n+")) {
            // one word between two quotes only joins them
            if (part.trim().matches(".*\\w+\\W+\\w+.*")) {
                parts.add(part.trim());
            }
        }
        return parts;
    }
}
