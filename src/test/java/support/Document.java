import java.io.IOException;
import java.io.UncheckedIOException;
import java.nio.file.Files;
import java.nio.file.Path;
import java.util.ArrayList;
import java.util.List;

/** The document, so that a test which quotes a sentence can be held to its words. */
final class Document {
    private static final List<String> LINES = read();

    private Document() { }

    private static List<String> read() {
        try {
            return Files.readAllLines(Path.of("../shared/DOC.md"));
        } catch (IOException e) {
            throw new UncheckedIOException(e);
        }
    }

    /** A place is how a heading begins: "Promise 3", "Terms", "==== 2". */
    static boolean says(String place, String words) {
        return part(place).contains(words);
    }

    static List<String> promises() {
        List<String> all = new ArrayList<>();
        for (String line : LINES) {
            if (line.startsWith("## Promise ")) all.add(line.substring(3, line.indexOf(':')));
        }
        return all;
    }

    private static String part(String place) {
        StringBuilder part = new StringBuilder();
        boolean within = false;
        for (String line : LINES) {
            if (line.startsWith("## ") || line.startsWith("==== ")) within = opens(line, place);
            if (within) part.append(line).append('\n');
        }
        return part.toString();
    }

    private static boolean opens(String line, String place) {
        String heading = line.startsWith("## ") ? line.substring(3) : line;
        return heading.equals(place) || heading.startsWith(place + ":") || heading.startsWith(place + " ");
    }
}
