import java.io.IOException;
import java.util.ArrayList;
import java.util.List;
import java.util.Map;
import java.util.Set;

/** The boundary cases that the document names, each behind its own words; and that no words of it are left out. */
public final class EdgesTest {
    private static final int PROMISES = 29;

    public static void main(String[] args) throws IOException {
        TermEdges.run();
        VersionEdges.run();
        PadEdges.run();
        FactorEdges.run();
        String document = Document.text();
        if (!document.isEmpty()) compareWithDocument(document);
        System.out.println(Edges.checks() + " boundary cases, " + Edges.wrong() + " wrong");
        if (Edges.wrong() != 0) System.exit(1);
    }

    private static void compareWithDocument(String document) {
        int promises = 0;
        for (Map.Entry<String, Set<String>> chapter : Edges.quoted().entrySet()) {
            String rest = plain(Document.chapter(document, chapter.getKey()));
            if (chapter.getKey().startsWith("Promise ")) promises++;
            // The longest first, for a short quotation may be a part of a longer one.
            List<String> quotations = new ArrayList<>(chapter.getValue());
            quotations.sort((one, other) -> Integer.compare(other.length(), one.length()));
            for (String quotation : quotations) {
                if (!plain(Document.chapter(document, chapter.getKey())).contains(quotation)) {
                    Edges.fault("the document does not say in " + chapter.getKey() + ": " + quotation);
                }
                rest = rest.replace(quotation, " ");
            }
            boolean introduction = chapter.getKey().equals("What it is");
            if (!introduction && rest.matches("(?s).*[A-Za-z0-9].*")) {
                Edges.fault("no test stands behind these words of " + chapter.getKey() + ": " + rest.trim());
            }
        }
        if (promises != PROMISES) Edges.fault("there are tests for " + promises + " promises");
    }

    /** Without the heads of the calls, the heads of the paragraphs and what only tells how the interface is laid out. */
    private static String plain(String text) {
        return text.replaceAll("(?m)^`[^`]*\\)`: ", "")
            .replaceAll("(?m)^Ahead of the calls .*$", "")
            .replaceAll("(?m)^(CONVENTIONS|WORDS|VERSIONS|FACTORS|CLASSES|THE PAD)\\.", "")
            .replace("`", "")
            .replaceAll("\\s+", " ");
    }
}
