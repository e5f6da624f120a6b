import java.io.IOException;
import java.io.UncheckedIOException;
import java.nio.file.Files;
import java.nio.file.Path;

/** ../shared/DOC.md, its blanks and ends of lines as one blank each, so that a sentence can be looked for as it is read. */
final class Document {
    static final String SOURCE = read();
    static final String TEXT = SOURCE.replace("```text", " ").replace("```", " ").replaceAll("\\s+", " ");

    private Document() { }

    private static String read() {
        try {
            return Files.readString(Path.of("../shared/DOC.md"));
        } catch (IOException thrown) {
            throw new UncheckedIOException(thrown);
        }
    }
}
