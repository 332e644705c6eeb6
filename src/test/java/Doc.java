import java.io.IOException;
import java.io.UncheckedIOException;
import java.nio.file.Files;
import java.nio.file.Path;
import java.util.ArrayList;
import java.util.List;

/** The document, cut into its parts, so that no test stands for words that are not in it. */
final class Doc {
    private static final List<String> PARTS = read(System.getProperty("doc"));

    private Doc() {
    }

    /** A part begins with a line of ## or ==== and goes on to the next one; where it is broken into lines is no matter. */
    private static List<String> read(String file) {
        List<String> parts = new ArrayList<>();
        if (file == null || !Files.exists(Path.of(file))) {
            return parts;
        }
        try {
            for (String part : Files.readString(Path.of(file)).split("(?m)^(##|====) ")) {
                parts.add(plain(part.replaceAll("(?m)^```.*$", " ")));
            }
        } catch (IOException e) {
            throw new UncheckedIOException(e);
        }
        return parts;
    }

    private static String plain(String words) {
        return words.replaceAll("\\s+", " ").strip();
    }

    /** Whether the part that begins so has these words; without a document all may be said. */
    static boolean says(String begin, String words) {
        for (String part : PARTS) {
            if (part.startsWith(begin) && part.contains(words)) {
                return true;
            }
        }
        return PARTS.isEmpty();
    }
}
