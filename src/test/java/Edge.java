import java.io.IOException;
import java.nio.file.Path;

/** What the edge tests share: the sentence of the document that is looked at, boats, and what was found. */
final class Edge {
    static final int BAD = -1, NOT = -2, FULL = -3, NONE = -4, NULL = -11, CAST = -12, INDEX = -13, SIZE = -14;
    static final int LEAST = Integer.MIN_VALUE, MOST = Integer.MAX_VALUE;
    private final Dues dues = new Dues();
    private final Sentences sentences;
    private String sentence = "";
    private int lookedAt = 1;

    Edge(Path document) throws IOException {
        sentences = new Sentences(document);
    }

    /** From here on the tests are of these words of a promise. */
    void promise(int n, String words) {
        begin(Sentences.promise(n), words);
    }

    /** From here on the tests are of these words of the section 'Terms'. */
    void terms(String words) {
        begin(Sentences.TERMS, words);
    }

    /** From here on the tests are of these words of the section 'What it is'. */
    void whole(String words) {
        begin(Sentences.WHAT_IT_IS, words);
    }

    /** From here on the tests are of what these words of the section 'Not promised' leave. */
    void free(String words) {
        begin(Sentences.NOT_PROMISED, words);
    }

    private void begin(String place, String words) {
        dues.holds("a test for: " + sentence, lookedAt > 0);
        sentence = place + ", '" + words + "': ";
        dues.holds(sentence + "the document says so", sentences.quote(place, words));
        lookedAt = 0;
    }

    Boat boat() {
        return new Boat(this);
    }

    Boat boat(String canal) {
        return boat().types(canal).does("canal");
    }

    void due(String call, long got, long want) {
        lookedAt++;
        dues.due(sentence + call, got, want);
    }

    void same(String what, String got, String want) {
        lookedAt++;
        dues.holds(sentence + what + "\n  is    " + got + "\n  not   " + want, got.equals(want));
    }

    void holds(String what, boolean so) {
        dues.holds(sentence + what, so);
    }

    String text(int promise) {
        return sentences.text(Sentences.promise(promise));
    }

    void end() {
        for (String words : sentences.unquoted()) {
            dues.holds("a test for " + words, false);
        }
        dues.end();
    }
}
