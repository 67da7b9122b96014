import java.io.IOException;
import java.nio.file.Files;
import java.nio.file.Path;
import java.util.ArrayList;
import java.util.List;

/** The document's sentences, in their order: each point of a list is one, and headings and code are none. */
final class Document {
    private static final Path PLACE = Path.of("../shared/DOC.md");
    private static final String FENCE = "```";

    private Document() {
    }

    static List<String> lines() {
        try {
            return Files.readAllLines(PLACE);
        } catch (IOException e) {
            throw new IllegalStateException("the document can't be read", e);
        }
    }

    static List<String> sentences() {
        List<String> found = new ArrayList<>();
        boolean isCode = false;
        for (String line : lines()) {
            isCode ^= line.startsWith(FENCE);
            boolean isNone = isCode || line.isBlank() || line.startsWith("#") || line.startsWith(FENCE);
            if (!isNone && line.startsWith("- ")) {
                found.add(line.substring(2));
            } else if (!isNone) {
                found.addAll(List.of(line.split("(?<=[a-z0-9)`]\\.) (?=[A-Z])")));
            }
        }
        return found;
    }

    /** The lines of the document's code: the public face. */
    static List<String> code() {
        List<String> found = new ArrayList<>();
        boolean isCode = false;
        for (String line : lines()) {
            if (line.startsWith(FENCE)) {
                isCode = !isCode;
            } else if (isCode) {
                found.add(line);
            }
        }
        return found;
    }
}
