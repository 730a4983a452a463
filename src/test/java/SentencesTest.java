import java.io.IOException;
import java.nio.file.DirectoryStream;
import java.nio.file.Files;
import java.nio.file.Path;
import java.util.ArrayList;
import java.util.Comparator;
import java.util.List;
import java.util.regex.Matcher;
import java.util.regex.Pattern;

/** Every sentence of the terms and of the promises is quoted by a test of its boundary cases. */
public final class SentencesTest {
    private static final Pattern QUOTE =
            Pattern.compile("Doc\\.says\\(\\s*(\\d+),\\s*((?:\"[^\"]*\"\\s*\\+?\\s*)+)\\);");
    private static final Pattern PIECE = Pattern.compile("\"([^\"]*)\"");

    public static void main(String[] args) throws IOException {
        List<List<String>> quotes = quotes();
        String leftOfTerms = left(terms(), quotes.get(Doc.TERMS));
        Due.due("the terms, not quoted: '" + leftOfTerms + "'", leftOfTerms.length(), 0);
        for (int promise = 1; promise <= Doc.PROMISES; promise++) {
            String left = left(Doc.part(promise), quotes.get(promise));
            Due.due("promise " + promise + ", not quoted: '" + left + "'", left.length(), 0);
        }
        Due.due("how an object is used", quotes.get(Doc.TERMS).stream().anyMatch(q -> q.contains("512 calls")) ? 1 : 0, 1);
        Due.end();
    }

    /** The quotes of all tests of boundary cases, by promises. */
    private static List<List<String>> quotes() throws IOException {
        List<List<String>> quotes = new ArrayList<>();
        for (int promise = 0; promise <= Doc.PROMISES; promise++) {
            quotes.add(new ArrayList<>());
        }
        try (DirectoryStream<Path> files = Files.newDirectoryStream(Path.of("src/test/java"), "*BoundsTest.java")) {
            for (Path file : files) {
                Matcher quote = QUOTE.matcher(Files.readString(file));
                while (quote.find()) {
                    quotes.get(Integer.parseInt(quote.group(1))).add(joined(quote.group(2)));
                }
            }
        }
        return quotes;
    }

    private static String joined(String pieces) {
        StringBuilder words = new StringBuilder();
        Matcher piece = PIECE.matcher(pieces);
        while (piece.find()) {
            words.append(piece.group(1));
        }
        return words.toString();
    }

    /** From FINDINGS on, without what the interface says ahead of the calls. */
    private static String terms() {
        String part = Doc.part(Doc.TERMS);
        return part.substring(part.indexOf("FINDINGS are"), part.indexOf("Ahead of the calls"));
    }

    /** The words that no quote has; the longest quotes come first, as some stand inside others. */
    private static String left(String part, List<String> quotes) {
        quotes.sort(Comparator.comparing(String::length).reversed());
        String left = part;
        for (String quote : quotes) {
            left = left.replace(quote.trim(), " ");
        }
        return left.replaceAll("```(text)?|\\b[123]\\. ", " ").replaceAll("\\W+", " ").trim();
    }
}
