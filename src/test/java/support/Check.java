import java.util.NoSuchElementException;
import java.util.TreeSet;

/** What the tests share: counting wrong answers, feeding texts, calls that throw. */
final class Check {
    /** Stands for a NoSuchElementException among answers; no call answers it. */
    static final int THROWS = 1_000_000;

    private final TreeSet<Integer> named = new TreeSet<>();
    private Document document;
    private String sentence = "";
    private int wrong;
    private int right;

    void due(String what, long got, long want) {
        if (got == want) {
            right++;
            return;
        }
        wrong++;
        System.out.println(sentence + what + " answered " + got + ", due is " + want);
    }

    void due(String what, boolean got, boolean want) {
        due(what, got ? 1 : 0, want ? 1 : 0);
    }

    /** What comes next is about a sentence of the document, by its promise and its own words. */
    void about(int promise, String words) {
        if (document == null) {
            document = new Document();
        }
        named.add(promise);
        sentence = "";
        due("the words '" + words + "' of promise " + promise + " stand in the document", document.says(promise, words), true);
        sentence = "promise " + promise + " (" + words + "): ";
    }

    /** Each promise has had a sentence looked at. */
    void everyPromiseWasNamed() {
        sentence = "";
        for (int p = 1; p <= Document.PROMISES; p++) {
            due("promise " + p + " was named", named.contains(p), true);
        }
    }

    /** Ends the test, with exit code 1 if an answer was wrong or none was looked at. */
    void close() {
        System.out.println(right + " answers are as due, " + wrong + " are not");
        if (wrong > 0 || right == 0) {
            System.exit(1);
        }
    }

    static int good(ParcelSplit split, int good, int what) {
        try {
            return split.good(good, what);
        } catch (NoSuchElementException e) {
            return THROWS;
        }
    }

    /** The five numbers by which 20 bytes of a text, from a place on, are fed. */
    static int[] numbers(String text, int from) {
        int[] numbers = new int[5];
        for (int i = 0; i < 20; i++) {
            int sign = from + i < text.length() ? text.charAt(from + i) & 255 : 0;
            numbers[i / 4] = numbers[i / 4] << 8 | sign;
        }
        return numbers;
    }

    static int feed(ParcelSplit split, String twenty) {
        int[] n = numbers(twenty, 0);
        return split.feed(n[0], n[1], n[2], n[3], n[4]);
    }

    /** Feeds a text of any length up to 740 behind an empty tape. */
    static void lay(ParcelSplit split, String text) {
        for (int i = 0; i < text.length(); i += 20) {
            int[] n = numbers(text, i);
            split.feed(n[0], n[1], n[2], n[3], n[4]);
        }
        split.end(text.length());
    }

    static int read(ParcelSplit split, String text) {
        lay(split, text);
        return split.text();
    }

    static ParcelSplit made(String text) {
        ParcelSplit split = new ParcelSplit();
        if (read(split, text) < 0) {
            throw new IllegalStateException("a test's own text has a fault: " + text);
        }
        return split;
    }
}
