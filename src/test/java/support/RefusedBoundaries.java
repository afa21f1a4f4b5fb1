import java.util.List;
import java.util.function.Consumer;
import java.util.function.ToIntFunction;

/**
 * Every call that is refused or only asks: behind it an object shows all that its twin shows, which had the same calls but this.
 */
final class RefusedBoundaries {
    private static final String WORDS = "A refused call, one that throws changes nothing.";
    private static final int LEAST_INT = Integer.MIN_VALUE;
    private static final int MOST_INT = Integer.MAX_VALUE;
    private static final String TEXT = "carrier 20 99 5 10 60 7;break 5 10 20 30;break 20 15 60 70;zones 0 0 1 2 3;zones 50 1 2 0 3;"
        + "carrier 9 99 9 0 9 0;break 8 12 13 14;zones 0 0 1 2 3;good 4 10 50;good 6 31 61;good 5 60 60;order 0 0;";
    private static final String NEXT = "carrier 9 9 9 0 9 0;break 9 1 1 1;zones 0 0 0 0 0;good 1 1 1;order 0 77;";
    /** No object of these tests has had more calls than these ahead of its look. */
    private static final int CALLS_AHEAD = 100;

    private final Check check;

    RefusedBoundaries(Check check) {
        this.check = check;
    }

    void run() {
        feed();
        end();
        textWithAFault();
        asksWithoutSuchOnes();
        asks();
        put();
        by();
        take();
        claim();
        order();
        undo();
        aNewObject();
        manyInARow();
    }

    // ---- objects that have been used

    /** A fault of kind 2 was told, seven acts can be undone, and the tape has a right text that is not read yet. */
    private static ParcelSplit busy() {
        ParcelSplit split = Check.made(TEXT);
        Check.read(split, "carrier 0");
        acts(split);
        Check.lay(split, NEXT);
        return split;
    }

    private static void acts(ParcelSplit split) {
        split.put(0, 0);
        split.put(1, 7);
        split.by(7, 1);
        split.claim(7, 8);
        split.put(2, 4);
        split.order(1, 50);
        split.claim(0, 3);
    }

    /** As many acts as are kept, and one more. */
    private static ParcelSplit full() {
        ParcelSplit split = busy();
        for (int i = 0; i < 4; i++) {
            split.order(2, 60 + i);
        }
        return split;
    }

    /** No carrier serves the place. */
    private static ParcelSplit far() {
        ParcelSplit split = busy();
        split.order(3, 99);
        return split;
    }

    private static ParcelSplit again(int which) {
        switch (which) {
            case 0:
                return busy();
            case 1:
                return full();
            default:
                return far();
        }
    }

    private void same(String what, ParcelSplit used, ParcelSplit twin) {
        List<Integer> shown = Look.of(used, CALLS_AHEAD);
        List<Integer> due = Look.of(twin, CALLS_AHEAD);
        check.due(what + ": as many answers", shown.size(), due.size());
        for (int i = 0; i < due.size(); i++) {
            check.due(what + ": answer " + i + " of what is shown behind it", shown.get(i), due.get(i));
        }
    }

    private void refused(String what, ToIntFunction<ParcelSplit> call, int want) {
        for (int which = 0; which < 3; which++) {
            ParcelSplit used = again(which);
            check.due(what, call.applyAsInt(used), want);
            same(what, used, again(which));
        }
    }

    private void refusedWhere(int which, String what, ToIntFunction<ParcelSplit> call, int want) {
        ParcelSplit used = again(which);
        check.due(what, call.applyAsInt(used), want);
        same(what, used, again(which));
    }

    // ---- promises 2 to 4

    private void feed() {
        check.about(2, WORDS);
        for (int bytes : new int[] {721, 739, 740}) {
            ParcelSplit used = fed(bytes);
            check.due("feed behind " + bytes, Check.feed(used, ";".repeat(20)), -1);
            check.due("feed behind " + bytes + " again", Check.feed(used, ";".repeat(20)), -1);
            same("feed behind " + bytes, used, fed(bytes));
            ParcelSplit cut = fed(bytes);
            Check.feed(cut, ";".repeat(20));
            cut.end(700);
            check.due("text of what was there", cut.text(), 5);
        }
    }

    private static ParcelSplit fed(int bytes) {
        ParcelSplit split = Check.made(TEXT);
        acts(split);
        Check.lay(split, Texts.filled(NEXT, bytes));
        return split;
    }

    private void end() {
        check.about(3, WORDS);
        for (int n : new int[] {-1, NEXT.length() + 1, 740, 741, LEAST_INT, MOST_INT}) {
            refused("end(" + n + ")", s -> s.end(n) ? 1 : 0, 0);
        }
        refusedWhere(0, "end of all there is", s -> s.end(NEXT.length()) ? 1 : 0, 1);
    }

    private void textWithAFault() {
        check.about(4, "-1 less the place of a FAULT: all stays.");
        String unended = "carrier 9 9 9 0 9 0;break 9 1 1 1;zones 0 0 0 0 0;".repeat(3) + Texts.GOOD.repeat(8) + "order 3 99";
        fault("", 0, 1);
        fault("x", 0, 1);
        fault(unended, unended.length(), 1);
        fault(Texts.filled(unended + ";", 701), 700, 1);
        fault(unended.replace("order 3 99", "order 3 100;"), unended.length() - 2, 2);
        fault(unended.replace("order", "good"), unended.length() - 10, 3);
    }

    private void fault(String text, int place, int kind) {
        ParcelSplit used = Check.made(TEXT);
        Check.read(used, "carrier 0");
        acts(used);
        check.due("text of '" + text + "'", Check.read(used, text), -1 - place);
        check.due("its kind", used.fault(), kind);
        ParcelSplit twin = Check.made(TEXT);
        String[] ofKind = {"x", "carrier 0", Texts.ONE.repeat(3) + "carrier"};
        Check.read(twin, ofKind[kind - 1]);
        acts(twin);
        same("text of '" + text + "'", used, twin);
    }

    // ---- promises 5 to 19

    private void asksWithoutSuchOnes() {
        check.about(6, WORDS);
        refused("now(8)", s -> s.now(8), -1);
        refused("now(-1)", s -> s.now(-1), -1);
        check.about(7, "one that throws changes nothing.");
        for (int g : new int[] {3, 8, -1, LEAST_INT, MOST_INT}) {
            refused("good(" + g + ", 0)", s -> Check.good(s, g, 0), Check.THROWS);
        }
        for (int w : new int[] {4, -1, LEAST_INT, MOST_INT}) {
            refused("good(0, " + w + ")", s -> Check.good(s, 0, w), Check.THROWS);
        }
        check.about(8, WORDS);
        refused("zone(2)", s -> s.zone(2), -1);
        check.about(9, WORDS);
        refused("rate(0, 0)", s -> s.rate(0, 0), -1);
        refused("rate(0, 1000)", s -> s.rate(0, 1000), -1);
        refused("rate(2, 1)", s -> s.rate(2, 1), -1);
        refused("rate(0, 21)", s -> s.rate(0, 21), -2);
        check.about(10, WORDS);
        refused("billed(8, 0)", s -> s.billed(8, 0), -1);
        refused("billed(1, 2)", s -> s.billed(1, 2), -1);
        check.about(11, WORDS);
        refused("charge(0, 0)", s -> s.charge(0, 0), -1);
        refused("charge(8, 0)", s -> s.charge(8, 0), -1);
        refusedWhere(0, "charge(7, 1)", s -> s.charge(7, 1), -3);
        refusedWhere(0, "charge(7, 0)", s -> s.charge(7, 0), -4);
        refusedWhere(0, "charge(4, 1)", s -> s.charge(4, 1), 13);
        refusedWhere(2, "charge(1, 0)", s -> s.charge(1, 0), -2);
        check.about(12, WORDS);
        refused("cheapest(8)", s -> s.cheapest(8), -1);
        refusedWhere(2, "cheapest(1)", s -> s.cheapest(1), -2);
        check.about(14, WORDS);
        refused("split(3, 0)", s -> s.split(3, 0), -1);
        refused("split(0, 2)", s -> s.split(0, 2), -1);
        refusedWhere(2, "split(0, 0)", s -> s.split(0, 0), -2);
        check.about(17, WORDS);
        refused("parcel(8, 0)", s -> s.parcel(8, 0), -100);
        refused("parcel(0, 5)", s -> s.parcel(0, 5), -100);
        check.about(18, WORDS);
        refused("total(2)", s -> s.total(2), -1);
        refusedWhere(2, "total(0)", s -> s.total(0), -2);
        check.about(19, WORDS);
        refused("would(4, 0)", s -> s.would(4, 0), -1);
        refused("would(0, 100)", s -> s.would(0, 100), -1);
        refused("would(3, 99)", s -> s.would(3, 99), -2);
    }

    /** An answer that is no refusal changes nothing, too: the promises tell of no change. */
    private void asks() {
        check.about(13, "LEAST (0 without GOODS).");
        Consumer<ParcelSplit> all = s -> {
            for (int place = 0; place < 4; place++) {
                s.would(place, 10 * place);
            }
            s.least();
            s.split(0, 0);
            s.split(2, 1);
            s.bound();
            s.gap();
            s.cheapest(3);
            s.charge(5, 1);
            s.billed(6, 0);
            s.parcel(7, 4);
            s.total(1);
            s.fault();
            s.now(5);
        };
        for (int which = 0; which < 3; which++) {
            ParcelSplit used = again(which);
            all.accept(used);
            same("questions", used, again(which));
        }
        check.about(15, "-2: no CARRIER serves the PLACE.");
        refusedWhere(2, "bound()", ParcelSplit::bound, -2);
        check.about(16, "NONE: there is no SPLIT, bound() is -2.");
        refusedWhere(2, "gap()", ParcelSplit::gap, -1);
        check.about(13, "-2: there is no SPLIT.");
        refusedWhere(2, "least()", ParcelSplit::least, -2);
        check.about(5, "The kind of the FAULT of the latest text()");
        refused("fault()", ParcelSplit::fault, 2);
    }

    // ---- promises 20 to 25

    private void put() {
        check.about(20, WORDS);
        refused("put where it is", s -> s.put(0, 0), -2);
        refused("put where it is", s -> s.put(1, 7), -2);
        for (int g : new int[] {3, 8, -1, LEAST_INT, MOST_INT}) {
            refused("put(" + g + ", 0)", s -> s.put(g, 0), -3);
            refused("put(" + g + ", -1)", s -> s.put(g, -1), -3);
        }
        for (int p : new int[] {8, -2, LEAST_INT, MOST_INT}) {
            refused("put(0, " + p + ")", s -> s.put(0, p), -3);
        }
        ParcelSplit used = busy();
        used.put(2, -1);
        check.due("put into none where it is", used.put(2, -1), -2);
        ParcelSplit twin = busy();
        twin.put(2, -1);
        same("put into none where it is", used, twin);
    }

    private void by() {
        check.about(21, WORDS);
        for (int c : new int[] {2, 3, -1, LEAST_INT, MOST_INT}) {
            refused("by(0, " + c + ")", s -> s.by(0, c), -1);
        }
        for (int p : new int[] {8, -1, LEAST_INT, MOST_INT}) {
            refused("by(" + p + ", 0)", s -> s.by(p, 0), -1);
        }
    }

    private void take() {
        check.about(22, WORDS);
        refusedWhere(2, "take() where none serves", ParcelSplit::take, -2);
        ParcelSplit used = heavy();
        check.due("take() with a good too heavy", used.take(), -2);
        same("take() with a good too heavy", used, heavy());
    }

    private static ParcelSplit heavy() {
        ParcelSplit split = Check.made(TEXT.replace("good 5 60 60", "good 21 60 60"));
        acts(split);
        return split;
    }

    private void claim() {
        check.about(23, WORDS);
        for (int k : new int[] {100, -1, LEAST_INT, MOST_INT}) {
            refused("claim(0, " + k + ")", s -> s.claim(0, k), -1);
        }
        for (int p : new int[] {8, -1, LEAST_INT, MOST_INT}) {
            refused("claim(" + p + ", 1)", s -> s.claim(p, 1), -1);
        }
        for (int p : new int[] {1, 2, 3, 5, 6}) {
            refused("claim(" + p + ", 1) without goods", s -> s.claim(p, 1), -1);
            refused("claim(" + p + ", 0) without goods", s -> s.claim(p, 0), -1);
        }
    }

    private void order() {
        check.about(24, WORDS);
        int[][] wrong = {{4, 0}, {-1, 0}, {0, 100}, {0, -1}, {LEAST_INT, 0}, {0, MOST_INT}};
        for (int[] w : wrong) {
            refused("order(" + w[0] + ", " + w[1] + ")", s -> s.order(w[0], w[1]) ? 1 : 0, 0);
        }
    }

    private static ParcelSplit undone() {
        ParcelSplit split = full();
        for (int i = 0; i < 10; i++) {
            split.undo();
        }
        return split;
    }

    private void undo() {
        check.about(25, WORDS);
        ParcelSplit used = undone();
        check.due("undo() of none", used.undo(), -1);
        check.due("undo() of none again", used.undo(), -1);
        same("undo() of none", used, undone());
    }

    private void aNewObject() {
        check.about(1, WORDS);
        ParcelSplit used = new ParcelSplit();
        used.end(1);
        used.text();
        used.put(0, 0);
        used.by(0, 1);
        used.claim(0, 1);
        used.order(4, 0);
        used.undo();
        Check.good(used, 0, 0);
        ParcelSplit twin = new ParcelSplit();
        twin.text();
        same("refused calls of a new object", used, twin);
    }

    private void manyInARow() {
        check.about(25, WORDS);
        ParcelSplit used = full();
        for (int i = 0; i < 3; i++) {
            used.put(0, 0);
            used.put(9, 0);
            used.by(0, 9);
            used.claim(3, 9);
            used.order(9, 9);
            used.end(-9);
        }
        same("many refused calls", used, full());
    }
}
