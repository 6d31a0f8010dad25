import java.io.IOException;
import java.nio.file.Files;
import java.nio.file.Path;
import java.util.LinkedHashMap;
import java.util.Map;

/** The document and README.md as tests read them; tests are run from the project's directory. */
final class Document {
    private static final Path PROMISES = Path.of("../shared/DOC.md");

    private Document() {
    }

    /** The text below each heading "## ..", by the heading's words up to a colon. */
    static Map<String, String> sections() throws IOException {
        Map<String, String> sections = new LinkedHashMap<>();
        for (String part : Files.readString(PROMISES).split("(?m)^## ")) {
            String[] heading = part.split("\n", 2);
            if (heading.length == 2) {
                sections.put(heading[0].replaceAll(":.*", ""), heading[1]);
            }
        }
        return sections;
    }

    /** The first block of Java code in a text, or nothing. */
    static String javaBlock(String text) {
        String[] parts = text.split("(?m)^```(java)?\n");
        return parts.length < 2 ? "" : parts[1];
    }
}
