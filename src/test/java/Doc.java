import java.io.IOException;
import java.io.UncheckedIOException;
import java.nio.file.Files;
import java.nio.file.Path;

/** The document's own words, so that a test of a sentence can quote it and fails if it quotes wrongly. */
final class Doc {
    static final int PROMISES = 42;
    /** The part ahead of the promises: "What it is" and "Terms". */
    static final int TERMS = 0;

    private static final String PAGE = read();

    private Doc() {
    }

    /** The answers from here on are about these words of a promise (0: the part ahead of them). */
    static void says(int promise, String words) {
        Due.about((promise == TERMS ? "Terms" : "Promise " + promise) + " \"" + words + "\"");
        Due.due("the document says so", part(promise).contains(words) ? 1 : 0, 1);
    }

    /** What stands under a promise's heading behind the call's own line, or ahead of all of them. */
    static String part(int promise) {
        if (promise == TERMS) {
            return PAGE.substring(0, PAGE.indexOf("## Promise 1:"));
        }
        int begin = PAGE.indexOf("`: ", PAGE.indexOf("## Promise " + promise + ":")) + 3;
        return PAGE.substring(begin, PAGE.indexOf(" ## ", begin)).trim();
    }

    // Its lines are folded at will, so blanks and line ends count alike.
    private static String read() {
        try {
            return Files.readString(Path.of("../shared/DOC.md")).replaceAll("\\s+", " ");
        } catch (IOException e) {
            throw new UncheckedIOException(e);
        }
    }
}
