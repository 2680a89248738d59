import java.util.ArrayList;
import java.util.List;

/** Counts the answers that are not as due, prints each of them, and ends the test with what came out. */
final class Due {
    static final int LEAST = Integer.MIN_VALUE;
    private static final int MOST_PRINTED = 30;

    private final List<String> sentences = new ArrayList<>();
    private int asked;
    private int askedAhead;
    private int wrong;

    void is(String call, long got, long want) {
        asked++;
        if (got != want) {
            wrong++;
            if (wrong <= MOST_PRINTED) {
                String sentence = sentences.isEmpty() ? "" : "[" + sentences.get(sentences.size() - 1) + "] ";
                System.out.println(sentence + call + " answered " + got + ", due is " + want);
            }
        }
    }

    void holds(String what, boolean it) {
        is(what, it ? 1 : 0, 1);
    }

    /** What is asked from here on tests one sentence of the document, quoted as it stands there. */
    void sentence(String quote) {
        closeSentence();
        sentences.add(quote);
    }

    /** No sentence is named without a question behind it. */
    private void closeSentence() {
        if (!sentences.isEmpty() && asked == askedAhead) {
            holds("something is asked", false);
        }
        askedAhead = asked;
    }

    List<String> sentences() {
        return sentences;
    }

    void end() {
        closeSentence();
        System.out.println(wrong == 0 ? asked + " answers are as due" : wrong + " answers are not as due");
        if (wrong != 0 || asked == 0) {
            System.exit(1);
        }
    }

    /** A new object with the codes given, four numbers each. */
    static TraceTrees with(int... codes) {
        TraceTrees x = new TraceTrees();
        for (int i = 0; i + 3 < codes.length; i += 4) {
            if (x.add(codes[i], codes[i + 1], codes[i + 2], codes[i + 3]) != i / 4 + 1) {
                throw new IllegalStateException("code " + i / 4 + " was refused");
            }
        }
        return x;
    }
}
