import java.io.IOException;
import java.nio.file.Files;
import java.nio.file.Path;

/** The document, where it is there to be read. */
final class Document {
    private static final Path FILE = Path.of("../shared/DOC.md");

    private Document() {
    }

    /** The whole text; nothing, and a word about that, if it is not there. */
    static String text() throws IOException {
        if (Files.exists(FILE)) return Files.readString(FILE);
        System.out.println("the document is not there to compare with");
        return "";
    }

    static String chapter(String document, String heading) {
        int start = document.indexOf("## " + heading + "\n");
        if (start < 0) return "";
        int text = document.indexOf('\n', start) + 1;
        int end = document.indexOf("\n## ", text);
        return document.substring(text, end < 0 ? document.length() : end);
    }
}
