import java.io.File;
import java.io.IOException;
import java.nio.file.Files;
import java.util.ArrayList;
import java.util.List;

/** DOC.md, held against the sentences that the tests quote: each quote stands there, and nothing there has none. */
final class Document {
    /** Pieces of the terms that name no boundary: they tell what a word means, or lead to the pieces behind them. */
    private static final List<String> NO_BOUNDARY = List.of("A step has a kind and two numbers, a and b:",
            "An event has a kind and two numbers:", "The steps:");

    private final String text;

    private Document(String text) {
        this.text = text;
    }

    static void holds(List<Edge.Said> said) throws IOException {
        File file = new File(System.getProperty("doc", "../shared/DOC.md"));
        if (!file.isFile()) {
            System.out.println("  no document at " + file + ": the quotes are not held against it");
            return;
        }
        Document doc = new Document(Files.readString(file.toPath()));
        for (int promise = 0; promise <= 33; promise++) {
            doc.promise(promise, said);
        }
    }

    private String section(int promise) {
        int from = promise == 0 ? text.indexOf("## Terms") : text.indexOf("## Promise " + promise + ":");
        int to = promise == 0 ? text.indexOf("The constants:") : text.indexOf("\n## ", from + 1);
        return text.substring(from, to);
    }

    /** What must be quoted: of the terms each sentence or half of one, of a promise each line below its face. */
    private List<String> pieces(int promise) {
        List<String> pieces = new ArrayList<>();
        for (String line : section(promise).split("\n")) {
            if (line.isBlank() || line.startsWith("#") || promise > 1 && line.startsWith("`")) {
                continue;
            }
            for (String piece : promise == 0 ? line.split("(?<=[.;]) ") : new String[] {line}) {
                if (!NO_BOUNDARY.contains(piece)) {
                    pieces.add(piece);
                }
            }
        }
        return pieces;
    }

    private void promise(int promise, List<Edge.Said> said) {
        String section = section(promise);
        List<String> quotes = new ArrayList<>();
        for (Edge.Said s : said) {
            if (s.promise() == promise) {
                quotes.add(s.words());
                Check.holds("promise " + promise + " says: " + s.words(),
                        () -> Check.truth(section.contains(s.words())));
            }
        }
        for (String piece : pieces(promise)) {
            Check.holds("promise " + promise + " has a test of: " + piece,
                    () -> Check.truth(quotes.stream().anyMatch(q -> q.contains(piece) || piece.contains(q))));
        }
    }
}
