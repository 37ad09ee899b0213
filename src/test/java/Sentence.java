import java.io.IOException;
import java.nio.file.Files;
import java.nio.file.Path;
import java.util.BitSet;
import java.util.Map;
import java.util.TreeMap;

/**
 * One test for one sentence of the document: it names the promise and quotes the words. The words must
 * stand in the document, under that promise or ahead of all promises; and what no test quotes is told.
 */
final class Sentence {
    private static final Path DOCUMENT = Path.of("../shared/DOC.md");
    private static final int HEAD = -1, TERMS = 0, PROMISES = 40;

    private static final Map<Integer, StringBuilder> parts = new TreeMap<>();
    private static final Map<Integer, BitSet> quoted = new TreeMap<>();

    private Sentence() {
    }

    static void readDocument() throws IOException {
        int part = HEAD;
        for (String line : Files.readString(DOCUMENT).split("\n")) {
            if (line.startsWith("#")) {
                part = partOf(line, part);
            } else if (isText(line)) {
                parts.computeIfAbsent(part, p -> new StringBuilder()).append(bare(line)).append(' ');
                quoted.computeIfAbsent(part, p -> new BitSet());
            }
        }
    }

    /** The terms and each promise are parts of their own; what is not promised belongs to the head. */
    private static int partOf(String heading, int part) {
        if (heading.startsWith("## Terms")) {
            return TERMS;
        }
        if (heading.startsWith("## Promise ")) {
            return Integer.parseInt(heading.substring(11, heading.indexOf(':')));
        }
        return part == TERMS || heading.startsWith("## Not") ? HEAD : part;
    }

    private static boolean isText(String line) {
        return !line.isBlank() && !line.startsWith("```") && !line.startsWith("Ahead of the calls");
    }

    /** Without the face of a call ahead of it and the numbers of the terms' parts. */
    private static String bare(String line) {
        return line.strip().replaceFirst("^`[^`]*`: ", "").replaceFirst("^======== \\d ", "");
    }

    static void test(int promise, String words, Runnable body) {
        Check.about("Promise " + promise + ", \"" + words + "\": ");
        int[] tried = {promise, TERMS, HEAD};
        boolean found = false;
        for (int i = 0; i < tried.length && !found; i++) {
            found = quote(tried[i], words);
        }
        Check.due("stands in the document", found ? 1 : 0, 1);
        int before = Check.checked();
        try {
            body.run();
        } catch (RuntimeException | StackOverflowError e) {
            e.printStackTrace(System.out);
            Check.due("threw " + e, 1, 0);
        }
        Check.due("checks something", Check.checked() > before ? 1 : 0, 1);
        Check.about("");
    }

    private static boolean quote(int part, String words) {
        int at = parts.containsKey(part) ? parts.get(part).indexOf(words) : -1;
        if (at < 0) {
            return false;
        }
        quoted.get(part).set(at, at + words.length());
        return true;
    }

    static void allAreQuoted() {
        for (int part = TERMS; part <= PROMISES; part++) {
            Check.about(part == TERMS ? "The terms: " : "Promise " + part + ": ");
            Check.due("is in the document", parts.containsKey(part) ? 1 : 0, 1);
            if (parts.containsKey(part)) {
                tellUnquoted(parts.get(part).toString(), quoted.get(part));
            }
        }
        Check.about("");
    }

    private static void tellUnquoted(String text, BitSet marks) {
        int at = marks.nextClearBit(0);
        while (at < text.length()) {
            int next = marks.nextSetBit(at);
            String words = text.substring(at, next < 0 ? text.length() : next).strip();
            if (words.matches(".*[A-Za-z0-9].*")) {
                Check.due("no test quotes \"" + words + "\"", 1, 0);
            }
            at = next < 0 ? text.length() : marks.nextClearBit(next);
        }
    }
}
