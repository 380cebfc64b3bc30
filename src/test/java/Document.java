import java.io.IOException;
import java.io.UncheckedIOException;
import java.nio.file.Files;
import java.nio.file.Path;

/** What ../shared/DOC.md says, so that a test can name the sentence that it is for. */
final class Document {
    private static final Path PATH = Path.of("../shared/DOC.md");
    private static final String TEXT = read();
    private static final String TERMS = between("## Terms", "## Promise 1: ");

    private Document() {
    }

    private static String read() {
        try {
            return Files.readString(PATH).replaceAll("\\s+", " ");
        } catch (IOException thrown) {
            throw new UncheckedIOException(thrown);
        }
    }

    private static String between(String start, String end) {
        int from = TEXT.indexOf(start);
        int to = from < 0 ? -1 : TEXT.indexOf(end, from);
        return from < 0 ? "" : TEXT.substring(from, to < 0 ? TEXT.length() : to);
    }

    /** Whether the promise's own section has the sentence, or what is told ahead of all promises. */
    static boolean says(int promise, String sentence) {
        return between("## Promise " + promise + ": ", " ## ").contains(sentence) || TERMS.contains(sentence);
    }
}
