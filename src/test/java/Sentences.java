import java.io.IOException;
import java.nio.file.Files;
import java.nio.file.Path;
import java.util.ArrayList;
import java.util.BitSet;
import java.util.List;

/**
 * The document's words, place by place ("Promise 13", "Terms"), and which of them a test has quoted: a test
 * that quotes what the document does not say, and words that no test quotes, are both told. 'The public face' is
 * not among them: FaceTest reads it.
 */
final class Sentences {
    static final String TERMS = "Terms", WHAT_IT_IS = "What it is", NOT_PROMISED = "Not promised";
    private static final int PROMISES = 39;
    private final List<String> places = new ArrayList<>();
    private final List<String> texts = new ArrayList<>();
    private final List<BitSet> quoted = new ArrayList<>();

    Sentences(Path document) throws IOException {
        for (String part : Files.readString(document).split("\n## ")) {
            int end = part.indexOf('\n');
            String head = end < 0 ? part : part.substring(0, end);
            String body = end < 0 ? "" : part.substring(end);
            if (head.equals(TERMS)) {
                keep(TERMS, withoutHeadings(body).replace("```text", " ").replace("```", " "));
            } else if (head.equals(WHAT_IT_IS) || head.equals(NOT_PROMISED)) {
                keep(head, body);
            } else if (head.startsWith("Promise ")) {
                keep(head.substring(0, head.indexOf(':')), body.substring(body.indexOf("`:") + 2));
            }
        }
    }

    // Of the interface's headings, that of the sheets alone says more than a name.
    private static String withoutHeadings(String terms) {
        return terms.replaceAll("Ahead of the calls .*: ---- (1 cells|what is done|2 foretold).*", "")
            .replaceAll("Ahead of the calls .*: ----", "");
    }

    private void keep(String place, String text) {
        places.add(place);
        texts.add(plain(text));
        quoted.add(new BitSet());
    }

    private static String plain(String text) {
        return text.replaceAll("\\s+", " ").trim();
    }

    static String promise(int n) {
        return "Promise " + n;
    }

    /** Whether the words stand at the place; they count as quoted then. */
    boolean quote(String place, String words) {
        int k = places.indexOf(place);
        int from = k < 0 ? -1 : texts.get(k).indexOf(plain(words));
        if (from < 0) {
            return false;
        }
        quoted.get(k).set(from, from + plain(words).length());
        return true;
    }

    String text(String place) {
        int k = places.indexOf(place);
        return k < 0 ? "" : texts.get(k);
    }

    /** What nobody has quoted, each with its place; signs alone don't count. */
    List<String> unquoted() {
        List<String> left = new ArrayList<>();
        if (places.size() != PROMISES + 3) {
            left.add("the document has " + places.size() + " places");
        }
        for (int k = 0; k < places.size(); k++) {
            String text = texts.get(k);
            for (int from = quoted.get(k).nextClearBit(0); from < text.length();) {
                int next = quoted.get(k).nextSetBit(from);
                int end = next < 0 ? text.length() : next;
                String words = text.substring(from, end);
                if (words.matches(".*\\w.*")) {
                    left.add(places.get(k) + ": " + words);
                }
                from = quoted.get(k).nextClearBit(end);
            }
        }
        return left;
    }
}
