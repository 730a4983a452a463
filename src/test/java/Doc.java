import java.io.IOException;
import java.io.UncheckedIOException;
import java.nio.file.Files;
import java.nio.file.Path;
import java.util.ArrayList;
import java.util.List;
import java.util.regex.Matcher;
import java.util.regex.Pattern;

/** The document's own words, so that a test of a sentence can quote it and fails if it quotes wrongly. */
final class Doc {
    static final int PROMISES = 42;
    /** The part ahead of the promises: "What it is" and "Terms". */
    static final int TERMS = 0;

    private static final String PAGE = read();
    private static final Pattern CALL = Pattern.compile("public (int|long) (\\w+)\\(([^)]*)\\);");

    private Doc() {
    }

    /** The answers from here on are about these words of a promise (0: the part ahead of them). */
    static void says(int promise, String words) {
        Due.about((promise == TERMS ? "Terms" : "Promise " + promise) + " \"" + words + "\"");
        Due.due("the document says so", part(promise).contains(words) ? 1 : 0, 1);
    }

    /** What stands under a promise's heading behind the call's own line, or ahead of all of them. */
    static String part(int promise) {
        if (promise == TERMS) {
            return PAGE.substring(0, PAGE.indexOf("## Promise 1:"));
        }
        int begin = PAGE.indexOf("`: ", PAGE.indexOf("## Promise " + promise + ":")) + 3;
        return PAGE.substring(begin, PAGE.indexOf(" ## ", begin)).trim();
    }

    /** A call of the public face. */
    record Call(String type, String name, List<String> arguments) {
        /** As the face writes it; all arguments are ints. */
        String line() {
            String told = arguments.isEmpty() ? "" : "int " + String.join(", int ", arguments);
            return "public " + type + " " + name + "(" + told + ")";
        }
    }

    /** The calls of the public face, in its order, which is that of promises 2, 3, ... */
    static List<Call> face() {
        List<Call> calls = new ArrayList<>();
        Matcher call = CALL.matcher(part(TERMS));
        while (call.find()) {
            String told = call.group(3).replace("int ", "");
            calls.add(new Call(call.group(1), call.group(2), told.isEmpty() ? List.of() : List.of(told.split(", "))));
        }
        return calls;
    }

    // Its lines are folded at will, so blanks and line ends count alike.
    private static String read() {
        try {
            return Files.readString(Path.of("../shared/DOC.md")).replaceAll("\\s+", " ");
        } catch (IOException e) {
            throw new UncheckedIOException(e);
        }
    }
}
