import java.util.List;

/**
 * A test that goes through the document sentence by sentence, in the document's own words and order. Each sentence, or
 * each part of it where it is taken apart, has a check behind it, or is said to ask for nothing.
 */
abstract class Reading extends Checks {
    private static final String BETWEEN_PARTS = "[ ,;:.]*((and|or|but|otherwise)[ ,]+)?";
    private static final List<String> SENTENCES = Document.sentences();
    private static int next = 0;
    private static String whole = "";
    private static String last = "";
    private static int read = 0;
    private static int madeBefore = 0;
    private static boolean isChecked = true;

    /** Begins at the sentence that begins so. */
    static void beginAt(String words) {
        while (next < SENTENCES.size() && !SENTENCES.get(next).startsWith(words)) {
            next++;
        }
    }

    /** The next sentence of the document is this one, and the checks behind this call are for it. */
    static void says(String words) {
        endPart();
        endSentence();
        same("the next sentence of the document", next < SENTENCES.size() ? SENTENCES.get(next) : "none", words);
        next++;
        whole = words;
        read = 0;
        start(words);
    }

    /** The next part of the sentence; between parts stand but signs, and words that join. */
    static void part(String words) {
        if (read > 0) {
            endPart();
        }
        int at = whole.indexOf(words, read);
        String between = at < 0 ? "no such part: " + words : whole.substring(read, at);
        same("what stands before the part, if it is more than a join", between.matches(BETWEEN_PARTS) ? "" : between, "");
        read = Math.max(at, 0) + words.length();
        start(words);
    }

    /** The next sentence of the document is this one, and asks for nothing. */
    static void asksNothing(String words) {
        says(words);
        isChecked = true;
    }

    /** The next part of the sentence is this one, and asks for nothing. */
    static void partAsksNothing(String words) {
        part(words);
        isChecked = true;
    }

    /** The document goes on with a sentence that begins so; or it ends here, if this is empty. */
    static void endAt(String words) {
        endPart();
        endSentence();
        boolean isEnd = words.isEmpty() ? next == SENTENCES.size() : next < SENTENCES.size() && SENTENCES.get(next).startsWith(words);
        same("whether the document has been read up to here", isEnd ? 1 : 0, 1);
    }

    private static void start(String words) {
        sentence(words);
        last = words;
        madeBefore = made();
        isChecked = false;
    }

    private static void endPart() {
        if (!isChecked && made() == madeBefore) {
            same("how many checks stand behind: " + last, 0, 1);
        }
        isChecked = true;
    }

    private static void endSentence() {
        String rest = read > 0 ? whole.substring(read) : "";
        same("what no part holds of the sentence", rest.matches("[ ,;:.]*") ? "" : rest, "");
    }
}
