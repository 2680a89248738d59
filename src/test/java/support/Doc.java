import java.io.IOException;
import java.nio.file.Files;
import java.nio.file.Path;
import java.util.ArrayList;
import java.util.Arrays;
import java.util.List;

/** The text of the document, from how long an object is used to the last promise, in lines put together. */
final class Doc {
    private static final Path PLACE = Path.of("../shared/DOC.md");
    /** A sign that the document does not have. */
    private static final char CUT = '|';

    private final String text;

    Doc() throws IOException {
        String all = Files.readString(PLACE);
        int from = all.indexOf("An object is used");
        int to = all.indexOf("## Not promised");
        if (from < 0 || to < from) {
            throw new IllegalStateException("the document has other sections");
        }
        text = all.substring(from, to)
                .replaceAll("(?s)```java.*?```", "")
                .replaceAll("(?m)^## .*$", "")
                .replaceAll("(?m)^```.*$", "")
                .replaceAll("(?m)^Ahead of the calls .*$", "")
                .replaceAll("(?m)^`[^`]*`: ", "")
                .replaceAll("=+ \\d ", "")
                .replaceAll("\\s+", " ");
    }

    static boolean isThere() {
        return Files.isReadable(PLACE);
    }

    boolean says(String quote) {
        return text.contains(quote);
    }

    /** The runs of words that no quote has in it. */
    List<String> without(List<String> quotes) {
        char[] left = text.toCharArray();
        for (String quote : quotes) {
            for (int at = text.indexOf(quote); at >= 0; at = text.indexOf(quote, at + 1)) {
                Arrays.fill(left, at, at + quote.length(), CUT);
            }
        }
        List<String> out = new ArrayList<>();
        for (String run : new String(left).split("[" + CUT + "]+")) {
            if (run.matches(".*[A-Za-z0-9].*")) {
                out.add(run.strip());
            }
        }
        return out;
    }
}
