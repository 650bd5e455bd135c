import java.io.IOException;
import java.nio.charset.StandardCharsets;
import java.nio.file.Files;
import java.nio.file.Path;

/** The document's words, so that a test can name the sentence that it holds the class to. */
final class Document {
    static final int PROMISES = 36;
    private static final Path PLACE = Path.of("../shared/DOC.md");

    /** By promise; 0 is all that stands ahead of them. */
    private final String[] parts;

    private Document(String[] parts) {
        this.parts = parts;
    }

    static Document open() {
        if (!Files.exists(PLACE)) {
            System.out.println("there is no " + PLACE + ": the sentences are not looked up");
            return new Document(null);
        }
        try {
            String text = plain(Files.readString(PLACE, StandardCharsets.UTF_8));
            return new Document(text.split("## Promise \\d+: |## Not promised"));
        } catch (IOException e) {
            throw new IllegalStateException("can't read " + PLACE, e);
        }
    }

    boolean says(int promise, String words) {
        return parts == null || promise < parts.length && parts[promise].contains(plain(words));
    }

    private static String plain(String text) {
        return text.replaceAll("\\s+", " ");
    }
}
