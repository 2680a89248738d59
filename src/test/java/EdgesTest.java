import java.io.IOException;
import java.util.List;

/**
 * A test of its own for each sentence of the document that names a boundary case. Each test quotes its
 * sentence; here it is seen to that the document says what is quoted, and that no word of it, from
 * how long an object is used to the last promise, is left without a test.
 */
public final class EdgesTest {

    public static void main(String[] args) throws IOException {
        Due due = new Due();
        Edges[] all = {new CodeEdges(due), new NumberEdges(due), new RunEdges(due), new RecordingEdges(due),
            new CompiledEdges(due), new TraceEdges(due), new SheetEdges(due), new RefusalEdges(due), new DigestEdges(due)};
        for (Edges edges : all) {
            edges.ask();
        }
        due.end();
        compareWithDocument(due.sentences());
    }

    private static void compareWithDocument(List<String> quotes) throws IOException {
        if (!Doc.isThere()) {
            System.out.println("the document is not there: its words were not compared");
            return;
        }
        Doc doc = new Doc();
        Due due = new Due();
        for (String quote : quotes) {
            due.holds("the document says: " + quote, doc.says(quote));
        }
        List<String> untested = doc.without(quotes);
        for (String words : untested) {
            due.holds("a test is there for: " + words, false);
        }
        System.out.println(quotes.size() + " tests of sentences, " + untested.size() + " runs of words without one");
        due.end();
    }
}
