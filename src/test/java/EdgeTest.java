import java.nio.file.Files;
import java.nio.file.Path;
import java.util.List;
import java.util.Map;
import java.util.TreeMap;
import java.util.regex.Matcher;
import java.util.regex.Pattern;

/**
 * Each sentence of the document's terms and promises by a test of its own, and whether none of them
 * was left out.
 */
public final class EdgeTest {
    private EdgeTest() {
    }

    public static void main(String[] args) throws Exception {
        RefusalEdges.run();
        OfficerEdges.run();
        MonthEdges.run();
        ExchangeEdges.run();
        WordEdges.run();
        Path document = document();
        if (document == null) {
            System.out.println("no document beside the project: its sentences are not compared");
        } else {
            compareSentences(Files.readString(document));
        }
        System.out.println(Edges.checks + " checks of edges, " + Edges.wrong + " wrong");
        if (Edges.wrong != 0) {
            System.exit(1);
        }
    }

    /** It lies in a folder "shared" beside one of those that the test runs in; null: it does not. */
    private static Path document() {
        for (Path p = Path.of("").toAbsolutePath(); p != null; p = p.getParent()) {
            Path file = p.resolve("shared/DOC.md");
            if (Files.exists(file)) {
                return file;
            }
        }
        return null;
    }

    /** Each quote must stand in its section, and together they must leave no word of it over. */
    private static void compareSentences(String text) {
        Map<String, String> sections = sections(text);
        for (Map.Entry<String, List<String>> e : Edges.QUOTES.entrySet()) {
            for (String quote : e.getValue()) {
                String left = sections.getOrDefault(e.getKey(), "");
                int at = left.indexOf(quote);
                if (at < 0) {
                    report(e.getKey() + " does not say: " + quote);
                } else {
                    sections.put(e.getKey(), left.substring(0, at) + "|" + left.substring(at + quote.length()));
                }
            }
        }
        for (Map.Entry<String, String> e : sections.entrySet()) {
            if (e.getValue().matches(".*\\w.*")) {
                report(e.getKey() + " has no test of: " + e.getValue());
            }
        }
    }

    private static void report(String what) {
        Edges.wrong++;
        System.out.println(what);
    }

    /** The terms, each promise, and what stands ahead of them on an object's calls; each on one line. */
    private static Map<String, String> sections(String text) {
        Map<String, String> found = new TreeMap<>();
        Matcher m = Pattern.compile("(?ms)^## (What it is|Terms|Promise \\d+)[^\\n]*\\n(.*?)(?=^## |\\z)").matcher(text);
        while (m.find()) {
            String body = m.group(2);
            if (m.group(1).equals("What it is")) {
                body = body.substring(Math.max(0, body.indexOf("An object is used")));
            }
            found.put(m.group(1), withoutMarks(body));
        }
        return found;
    }

    /** Without fences, calls and constants in back quotes, and the lines that only group the calls. */
    private static String withoutMarks(String body) {
        String plain = body.replaceAll("(?m)^```\\w*$", "").replaceAll("(?m)^Ahead of the calls.*$", "");
        return plain.replace("The constants:", "").replaceAll("`[^`\\n]*`", "").replaceAll("=+ [1-4] ", " ")
                .replaceAll("\\s+", " ");
    }
}
