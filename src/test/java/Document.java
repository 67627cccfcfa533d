import java.io.IOException;
import java.io.UncheckedIOException;
import java.nio.file.Files;
import java.nio.file.Path;
import java.nio.file.Paths;
import java.util.HashMap;
import java.util.Map;

/** The document's sections, for tests that name the sentence that they are for. */
final class Document {
    private static final Path PLACE = Paths.get("../shared/DOC.md");
    private static final Map<String, String> SECTIONS = read();

    private Document() {
    }

    /** Whether a section, told as "Terms" or "Promise 7", has these words. */
    static boolean says(String section, String words) {
        return text(section).contains(words);
    }

    static String text(String section) {
        return SECTIONS.getOrDefault(section, "");
    }

    private static Map<String, String> read() {
        try {
            Map<String, String> sections = new HashMap<>();
            for (String part : Files.readString(PLACE).split("(?m)^## ")) {
                int lineEnd = part.indexOf('\n');
                if (lineEnd > 0) {
                    String heading = part.substring(0, lineEnd).replaceFirst(":.*", "").trim();
                    sections.put(heading, part.substring(lineEnd));
                }
            }
            return sections;
        } catch (IOException e) {
            throw new UncheckedIOException("the tests quote " + PLACE, e);
        }
    }
}
