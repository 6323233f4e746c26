import java.io.IOException;
import java.io.UncheckedIOException;
import java.nio.file.Files;
import java.nio.file.Path;
import java.util.ArrayList;
import java.util.List;

/**
 * Tests that go by the document's sentences: each quotes the one that it is about, word by word, and at the end
 * no word of the Terms and the promises may be left that no test has quoted.
 */
abstract class Sentences extends Checks {
    private static final String DOCUMENT = read();
    private static final boolean[] QUOTED = new boolean[DOCUMENT.length()];

    /** The Terms and the promises alone, a blank between words, without headings and the faces of the methods. */
    private static String read() {
        List<String> kept = new ArrayList<>();
        boolean within = false;
        try {
            for (String line : Files.readAllLines(Path.of("../shared/DOC.md"))) {
                if (line.startsWith("## ")) {
                    within = !line.equals("## Not promised") && (within || line.equals("## Terms"));
                } else if (within && !line.startsWith("```")) {
                    kept.add(line.replaceFirst("^`[^`]*`: ", ""));
                }
            }
        } catch (IOException e) {
            throw new UncheckedIOException(e);
        }
        return String.join(" ", kept).replaceAll("\\s+", " ").trim();
    }

    static void sentence(String quote) {
        about("'" + quote + "'");
        int at = DOCUMENT.indexOf(quote);
        while (at >= 0 && QUOTED[at]) {
            at = DOCUMENT.indexOf(quote, at + 1);
        }
        due("the document says so, and once more than was quoted", at >= 0, true);
        for (int i = 0; at >= 0 && i < quote.length(); i++) {
            QUOTED[at + i] = true;
        }
    }

    static void allQuoted() {
        about("the document");
        StringBuilder left = new StringBuilder();
        for (int i = 0; i < DOCUMENT.length(); i++) {
            left.append(QUOTED[i] ? ' ' : DOCUMENT.charAt(i));
        }
        String rest = left.toString().replaceAll("\\s+", " ").trim();
        due("letters that no test has quoted: '" + rest + "'", rest.length(), 0);
    }
}
