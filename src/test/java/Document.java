import java.io.IOException;
import java.nio.file.Files;
import java.nio.file.Path;
import java.util.LinkedHashMap;
import java.util.Map;

/** The document by sections: "What it is", "Terms", "Terms 1" to "Terms 3", "Promise 1" to "Promise 14". */
final class Document {
    private static final Path FILE = Path.of("../shared/DOC.md");

    private Document() {
    }

    static boolean isHere() {
        return Files.isRegularFile(FILE);
    }

    static Map<String, String> sections() throws IOException {
        Map<String, String> sections = new LinkedHashMap<>();
        String name = "";
        for (String line : Files.readAllLines(FILE)) {
            String text = line;
            if (line.startsWith("## ")) {
                name = line.substring(3).replaceAll(":.*", "").trim();
                text = "";
            } else if (line.startsWith("======== ")) {
                name = "Terms " + line.substring(9, 10);
                text = line.substring(10);
            } else if (line.startsWith("```") || line.startsWith("Ahead of the calls")) {
                text = "";
            }
            sections.merge(name, text, (a, b) -> plain(a + " " + b));
        }
        return sections;
    }

    static String plain(String text) {
        return text.replaceAll("\\s+", " ").trim();
    }
}
