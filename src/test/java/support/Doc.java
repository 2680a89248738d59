import java.io.IOException;
import java.nio.file.Files;
import java.nio.file.Path;
import java.util.ArrayList;
import java.util.Arrays;
import java.util.List;

/** The text of the document from its terms to its last promise, in lines put together. */
final class Doc {
    /** A sign that the document does not have. */
    private static final char CUT = '|';

    private final String text;

    Doc() throws IOException {
        String all = Files.readString(Path.of("../shared/DOC.md"));
        int from = all.indexOf("## Terms");
        int to = all.indexOf("## Not promised");
        if (from < 0 || to < from) {
            throw new IllegalStateException("the document has other sections");
        }
        text = all.substring(from, to)
                .replaceAll("(?m)^## .*$", "")
                .replaceAll("(?m)^```.*$", "")
                .replaceAll("(?m)^Ahead of the calls .*$", "")
                .replaceAll("(?m)^`[^`]*`: ", "")
                .replaceAll("=+ \\d ", "")
                .replaceAll("\\s+", " ");
    }

    boolean says(String quote) {
        return text.contains(quote);
    }

    /** The runs of words that no quote has in it. */
    List<String> without(List<String> quotes) {
        char[] left = text.toCharArray();
        for (String quote : quotes) {
            for (int at = text.indexOf(quote); at >= 0; at = text.indexOf(quote, at + 1)) {
                Arrays.fill(left, at, at + quote.length(), CUT);
            }
        }
        List<String> out = new ArrayList<>();
        for (String run : new String(left).split("[" + CUT + "]+")) {
            if (run.matches(".*[A-Za-z0-9].*")) {
                out.add(run.strip());
            }
        }
        return out;
    }
}
