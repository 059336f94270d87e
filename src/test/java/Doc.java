import java.io.IOException;
import java.nio.file.Files;
import java.nio.file.Path;
import java.util.LinkedHashMap;
import java.util.Map;

/**
 * The sentences of ../shared/DOC.md that tests are named by. A quote must stand under its heading, so
 * that no test looks at a sentence that the document does not say. With -Daudit=true what was not
 * quoted of the headings is told at the end.
 */
final class Doc {
    private static final Path PLACE = Path.of("../shared/DOC.md");
    private static final Map<String, String> PARTS = read();
    private static final Map<String, String> LEFT = new LinkedHashMap<>();
    private static int quotes = 0;

    private Doc() {
    }

    private static Map<String, String> read() {
        Map<String, String> parts = new LinkedHashMap<>();
        try {
            String heading = "";
            for (String line : Files.readString(PLACE).split("\n")) {
                if (line.startsWith("## ") || line.startsWith("### ")) {
                    heading = line.replaceFirst("^#+ ", "").replaceFirst("^(Promise \\d+):.*", "$1");
                } else if (line.startsWith("Error codes. ")) {
                    heading = "Error codes";
                }
                parts.merge(heading, plain(line.replaceFirst("^#.*", "")) + " ", String::concat);
            }
        } catch (IOException e) {
            System.out.println("the document was not found, so its sentences are not looked up");
        }
        return parts;
    }

    private static String plain(String text) {
        return text.replaceAll("\\s+", " ").trim();
    }

    /** Names what is tested until the next sentence; the quote must stand under the heading. */
    static void says(String heading, String quote) {
        quotes++;
        Checks.under(heading + ", \"" + quote + "\"");
        if (!PARTS.isEmpty()) {
            boolean found = PARTS.getOrDefault(heading, "").contains(plain(quote));
            Checks.due("the document has the sentence", found ? 1 : 0, 1);
            LEFT.merge(heading, PARTS.getOrDefault(heading, ""), (left, whole) -> left);
            LEFT.computeIfPresent(heading, (same, left) -> left.replace(plain(quote), "~"));
        }
    }

    static void end() {
        System.out.println(quotes + " sentences of the document");
        if (Boolean.getBoolean("audit")) {
            LEFT.forEach((heading, left) -> System.out.println(heading + ": " + left));
        }
        Checks.end();
    }
}
