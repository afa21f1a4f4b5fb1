/** Lines of texts for the tests, and what reading a text must answer. */
final class Texts {
    static final String CARRIER = "carrier 9 9 9 0 9 0;";
    static final String BREAK = "break 5 1 2 3;";
    static final String ZONES = "zones 0 0 1 2 3;";
    static final String ONE = CARRIER + BREAK + ZONES;
    static final String GOOD = "good 1 1 1;";
    static final String ORDER = "order 1 2;";

    private final Check check;

    Texts(Check check) {
        this.check = check;
    }

    void reads(String text) {
        reads(text, (int) text.chars().filter(c -> c == ';').count());
    }

    void reads(String text, int lines) {
        ParcelSplit split = new ParcelSplit();
        check.due("text of '" + text + "'", Check.read(split, text), lines);
        check.due("fault of '" + text + "'", split.fault(), 0);
    }

    void fails(String text, int place, int kind) {
        ParcelSplit split = new ParcelSplit();
        check.due("text of '" + text + "'", Check.read(split, text), -1 - place);
        check.due("fault of '" + text + "'", split.fault(), kind);
    }

    /** The fault is at the sign '#', which is taken out of the text. */
    void failsAtMark(String text, int kind) {
        fails(text.replace("#", ""), text.indexOf('#'), kind);
    }

    /** A text with blanks behind it, up to so many bytes. */
    static String filled(String text, int bytes) {
        return text + " ".repeat(bytes - text.length());
    }

    /** 'break' lines, as many as told, with the lowest numbers there are. */
    static String breaks(int count) {
        StringBuilder lines = new StringBuilder();
        for (int i = 1; i <= count; i++) {
            lines.append("break ").append(i).append(" 0 0 0;");
        }
        return lines.toString();
    }

    static String zones(int count) {
        StringBuilder lines = new StringBuilder();
        for (int i = 0; i < count; i++) {
            lines.append("zones ").append(i).append(" 0 0 0 0;");
        }
        return lines.toString();
    }
}
