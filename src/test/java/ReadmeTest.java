import java.io.IOException;
import java.nio.file.DirectoryStream;
import java.nio.file.Files;
import java.nio.file.Path;
import java.util.ArrayList;
import java.util.List;
import java.util.regex.Matcher;
import java.util.regex.Pattern;

/** What README.md shows is so: its examples answer as it says; it tells every call, finding and test. */
public final class ReadmeTest {
    private static final Pattern SHOWN = Pattern.compile("\n\\w+\\.\\w+\\([^\n]*\\);\\s+// -?\\d+: ");
    private static final Pattern FINDING =
            Pattern.compile("(?<=\\. )(BEYOND|FULL|KIND|NONE|STATE|MISSING|SIZE)(?=[.:]| \\(counted)");
    private static final String[] FINDINGS = {"BEYOND", "FULL", "KIND", "NONE", "STATE", "MISSING", "SIZE"};

    private static String page;
    private static int at;
    private static int shown;

    public static void main(String[] args) throws IOException {
        page = Files.readString(Path.of("README.md"));
        houseByCalls();
        houseFromText();
        toldHeights();
        allShownWereAsked();
        everyFinding();
        everyCall();
        everyTest();
        Due.end();
    }

    /** The page shows a call, behind those that it showed before, with this answer. */
    private static void shows(String call, long answer) {
        shown++;
        Matcher line = Pattern.compile("\n" + Pattern.quote(call) + ";\\s+// (-?\\d+): ").matcher(page);
        boolean isThere = line.find(at);
        Due.due("README.md shows " + call, isThere ? 1 : 0, 1);
        if (isThere) {
            at = line.end();
            Due.due(call, answer, Long.parseLong(line.group(1)));
        }
    }

    private static void has(String line) {
        Due.due("README.md has '" + line + "'", page.contains(line) ? 1 : 0, 1);
    }

    private static void houseByCalls() {
        has("\nCurtainHouse house = new CurtainHouse();\n");
        CurtainHouse house = new CurtainHouse();
        shows("house.curtain(1, 0b1001)", house.curtain(1, 0b1001));
        shows("house.curtain(2, 0)", house.curtain(2, 0));
        shows("house.scene(2, 7)", house.scene(2, 7));
        shows("house.go(3)", house.go(3));
        shows("house.of(0, 1)", house.of(0, 1));
        shows("house.ahead(1, 3, 20)", house.ahead(1, 3, 20));
        shows("house.down(1)", house.down(1));
        shows("house.kindFor(1, 60)", house.kindFor(1, 60));
        shows("house.moodFor(1, 60)", house.moodFor(1, 60));
        shows("house.of(2, 1)", house.of(2, 1));
        shows("house.status(-1)", house.status(-1));
    }

    private static void houseFromText() {
        has("\nCurtainHouse told = new CurtainHouse();\n");
        has("\nfor (char c : \"fringe mood 39 likes 64 high 2;scene 0 1;fire\".toCharArray()) {\n    told.feed(c, 1);\n}\n");
        CurtainHouse told = new CurtainHouse();
        Due.feed(told, "fringe mood 39 likes 64 high 2;scene 0 1;fire");
        shows("told.text()", told.text());
        shows("told.saved(100)", told.saved(100));
        has("\nfor (char c : \"drop mood 100\".toCharArray()) {\n    told.feed(c, 1);\n}\n");
        Due.feed(told, "drop mood 100");
        shows("told.text()", told.text());
    }

    private static void toldHeights() {
        has("\nCurtainHouse seen = new CurtainHouse();\n");
        CurtainHouse seen = new CurtainHouse();
        shows("seen.curtain(0, 0b10)", seen.curtain(0, 0b10));
        shows("seen.change(0, 1, 33)", seen.change(0, 1, 33));
        shows("seen.sheet(0, 8, 3)", seen.sheet(0, 8, 3));
        shows("seen.write(0, 0, 20)", seen.write(0, 0, 20));
        shows("seen.write(0, 1, -1)", seen.write(0, 1, -1));
        shows("seen.write(0, 2, 18)", seen.write(0, 2, 18));
        shows("seen.fits(0, 0)", seen.fits(0, 0));
        shows("seen.kinds(0, 0)", seen.kinds(0, 0));
        shows("seen.hold(4, 0)", seen.hold(4, 0));
        shows("seen.as(4, 1)", seen.as(4, 1));
        shows("seen.image()", seen.image());
        shows("seen.go(60)", seen.go(60));
        shows("seen.undo()", seen.undo());
    }

    private static void allShownWereAsked() {
        Matcher line = SHOWN.matcher(page);
        int lines = 0;
        while (line.find()) {
            lines++;
        }
        Due.due("calls that README.md shows with an answer", shown, lines);
    }

    private static void everyFinding() {
        for (int k = 0; k < FINDINGS.length; k++) {
            has("\n| " + (Due.LOW - k) + " | " + FINDINGS[k] + " | ");
        }
    }

    /** A row a call, with its arguments' names and, in their order, the findings that its promise tells. */
    private static void everyCall() {
        List<Doc.Call> face = Doc.face();
        for (int k = 0; k < face.size(); k++) {
            Doc.Call call = face.get(k);
            String begin = "\n| `" + call.name() + "(" + String.join(", ", call.arguments()) + ")` | ";
            Matcher row = Pattern.compile(Pattern.quote(begin) + "[^|\n]+\\|([^|\n]*)\\|\n").matcher(page);
            boolean isThere = row.find();
            Due.due("README.md has a row for " + begin.trim(), isThere ? 1 : 0, 1);
            // The constructor is promise 1, so the first call is promise 2.
            String due = String.join(", ", findings(k + 2));
            Due.due("findings of " + call.name() + " are " + due, isThere && row.group(1).trim().equals(due) ? 1 : 0, 1);
        }
    }

    private static List<String> findings(int promise) {
        List<String> told = new ArrayList<>();
        Matcher finding = FINDING.matcher(Doc.part(promise));
        while (finding.find()) {
            told.add(finding.group(1));
        }
        return told;
    }

    private static void everyTest() throws IOException {
        int tests = 0;
        try (DirectoryStream<Path> files = Files.newDirectoryStream(Path.of("src/test/java"), "*Test.java")) {
            for (Path file : files) {
                tests++;
                has("\n| " + file.getFileName().toString().replace(".java", "") + " | ");
            }
        }
        Due.due("rows of tests", page.split("\n\\| \\w+Test \\| ", -1).length - 1, tests);
        has("\n.ci/run\n");
    }
}
