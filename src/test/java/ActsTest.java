/** Promises 20 to 25: put, by, take, claim, order, undo. */
public final class ActsTest {
    private static final Check CHECK = new Check();
    private static final String TEXT = "carrier 20 100 5 10 60 7;break 5 10 20 30;break 20 15 60 70;zones 0 0 1 2 3;"
        + "carrier 10 999 99 0 999 0;break 8 12 13 14;zones 0 0 1 2 3;zones 50 3 3 3 3;"
        + "good 4 10 50;good 6 31 61;good 5 60 60;good 1 1 999;order 0 0;";

    public static void main(String[] args) {
        put();
        putAndClaims();
        by();
        take();
        claim();
        order();
        undo();
        tenAreKept();
        undoOfEach();
        refusedActs();
        CHECK.close();
    }

    private static void due(String what, long got, long want) {
        CHECK.due(what, got, want);
    }

    private static void put() {
        ParcelSplit split = Check.made(TEXT);
        due("put(0, 7)", split.put(0, 7), -1);
        due("its parcel", Check.good(split, 0, 3), 7);
        due("put(0, 0)", split.put(0, 0), 7);
        due("put(0, 0) again", split.put(0, 0), -2);
        due("put into none", split.put(0, -1), 0);
        due("put into none again", split.put(0, -1), -2);
        due("put(1, -1) at first", split.put(1, -1), -2);
        due("three were done", split.now(6), 3);
        for (int g : new int[] {4, 8, -1, Integer.MIN_VALUE, Integer.MAX_VALUE}) {
            due("put(" + g + ", 0)", split.put(g, 0), -3);
            due("put(" + g + ", -1)", split.put(g, -1), -3);
        }
        for (int p : new int[] {8, -2, Integer.MIN_VALUE, Integer.MAX_VALUE}) {
            due("put(0, " + p + ")", split.put(0, p), -3);
        }
        due("three were done still", split.now(6), 3);
    }

    private static void putAndClaims() {
        ParcelSplit split = Check.made(TEXT);
        split.put(0, 1);
        split.put(1, 1);
        split.by(1, 1);
        split.claim(1, 9);
        split.put(0, 2);
        due("a parcel with a good left has its claim", split.parcel(1, 2), 9);
        split.put(1, 2);
        due("one without goods has none", split.parcel(1, 2), -1);
        due("but its carrier", split.parcel(1, 1), 1);
        split.put(1, 1);
        due("goods come back, the claim does not", split.parcel(1, 2), -1);
        due("nor did it go with the goods", split.parcel(2, 2), -1);
        split.undo();
        split.undo();
        due("undo has the claim again", split.parcel(1, 2), 9);
    }

    private static void by() {
        ParcelSplit split = Check.made(TEXT);
        due("by(7, 1)", split.by(7, 1), 0);
        due("by(7, 0)", split.by(7, 0), 1);
        due("by(7, 0) again", split.by(7, 0), 0);
        due("three were done", split.now(6), 3);
        for (int c : new int[] {2, 3, -1, Integer.MIN_VALUE, Integer.MAX_VALUE}) {
            due("by(0, " + c + ")", split.by(0, c), -1);
        }
        for (int p : new int[] {8, -1, Integer.MIN_VALUE, Integer.MAX_VALUE}) {
            due("by(" + p + ", 0)", split.by(p, 0), -1);
        }
        due("three were done still", split.now(6), 3);
        due("the other parcels stay", split.parcel(6, 1), 0);
    }

    private static void take() {
        ParcelSplit split = Check.made(TEXT);
        split.put(0, 7);
        split.by(7, 1);
        split.by(6, 1);
        split.claim(7, 3);
        due("take", split.take(), 2);
        due("goods 0 and 2", split.parcel(0, 0), 5);
        due("by the first", split.parcel(0, 1), 0);
        due("goods 1 and 3", split.parcel(1, 0), 10);
        due("by the second", split.parcel(1, 1), 1);
        for (int p = 2; p < 8; p++) {
            due("no goods in " + p, split.parcel(p, 0), 0);
            due("no goods, so by 0", split.parcel(p, 1), 0);
            due("no goods, no claim", split.parcel(p, 2), -1);
        }
        due("its total is the least", split.total(0), split.least());
        due("five were done", split.now(6), 5);
        split.claim(0, 9);
        due("take again", split.take(), 2);
        due("nothing is claimed", split.parcel(0, 2), -1);
        split.order(3, 0);
        due("take without a split", split.take(), -2);
        due("all stays", split.parcel(0, 0), 5);
        due("eight were done", split.now(6), 8);
        split.undo();
        split.undo();
        due("the claim is there again", split.parcel(0, 2), 9);
        split.undo();
        split.undo();
        due("the plan ahead of it: goods", split.parcel(7, 0), 1);
        due("the plan ahead of it: carrier", split.parcel(7, 1), 1);
        due("the plan ahead of it: claim", split.parcel(7, 2), 3);
        due("the plan ahead of it: an empty parcel's carrier", split.parcel(6, 1), 1);
        ParcelSplit none = new ParcelSplit();
        due("take without goods", none.take(), 0);
        due("it was done", none.now(6), 1);
    }

    private static void claim() {
        ParcelSplit split = Check.made(TEXT);
        due("claim of a parcel without goods", split.claim(2, 5), -1);
        split.put(0, 2);
        due("claim(2, 5)", split.claim(2, 5), 0);
        due("claim(2, 99)", split.claim(2, 99), 5);
        due("claim(2, 1)", split.claim(2, 1), 99);
        due("claim(2, 1) again", split.claim(2, 1), 1);
        due("claim(2, 0)", split.claim(2, 0), 1);
        due("claim(2, 0) again", split.claim(2, 0), 0);
        due("seven were done", split.now(6), 7);
        for (int k : new int[] {100, -1, Integer.MIN_VALUE, Integer.MAX_VALUE}) {
            due("claim(2, " + k + ")", split.claim(2, k), -1);
        }
        for (int p : new int[] {8, -1, Integer.MIN_VALUE, Integer.MAX_VALUE}) {
            due("claim(" + p + ", 5)", split.claim(p, 5), -1);
        }
        due("no claim of none's goods", split.claim(-1, 0), -1);
        due("seven were done still", split.now(6), 7);
        due("nothing is claimed", split.parcel(2, 2), -1);
    }

    private static void order() {
        ParcelSplit split = Check.made(TEXT);
        split.put(0, 0);
        split.claim(0, 2);
        CHECK.due("order(3, 99)", split.order(3, 99), true);
        due("place", split.now(2), 3);
        due("day", split.now(3), 99);
        due("zone", split.zone(0), 3);
        due("least", split.least(), -2);
        due("the plan stays", split.parcel(0, 0), 1);
        due("the claim stays", split.parcel(0, 2), 2);
        CHECK.due("order(0, 0)", split.order(0, 0), true);
        CHECK.due("order(0, 0) again", split.order(0, 0), true);
        due("least again", split.least(), 28);
        due("five were done", split.now(6), 5);
        for (int w : new int[] {4, -1, Integer.MIN_VALUE, Integer.MAX_VALUE}) {
            CHECK.due("order(" + w + ", 0)", split.order(w, 0), false);
        }
        for (int w : new int[] {100, -1, Integer.MIN_VALUE, Integer.MAX_VALUE}) {
            CHECK.due("order(0, " + w + ")", split.order(0, w), false);
        }
        due("five were done still", split.now(6), 5);
    }

    private static void undo() {
        ParcelSplit split = Check.made(TEXT);
        due("undo of none", split.undo(), -1);
        split.put(0, 1);
        split.put(0, 2);
        due("undo of two", split.undo(), 1);
        due("where it was", Check.good(split, 0, 3), 1);
        split.put(0, 3);
        due("undo of two again", split.undo(), 1);
        due("where it was", Check.good(split, 0, 3), 1);
        due("undo of one", split.undo(), 0);
        due("in none", Check.good(split, 0, 3), -1);
        due("undo of none again", split.undo(), -1);
        due("none can be undone", split.now(6), 0);
    }

    private static void tenAreKept() {
        ParcelSplit split = Check.made(TEXT);
        for (int i = 1; i <= 23; i++) {
            split.order(0, i);
            due("kept", split.now(6), Math.min(i, 10));
        }
        for (int i = 9; i >= 0; i--) {
            due("undo of ten", split.undo(), i);
            due("day", split.now(3), 13 + i);
        }
        due("the eleventh is not kept", split.undo(), -1);
        due("day stays", split.now(3), 13);
    }

    private static void undoOfEach() {
        ParcelSplit split = Check.made(TEXT);
        split.put(0, 4);
        split.by(4, 1);
        split.claim(4, 7);
        split.order(1, 9);
        split.take();
        due("undo take", split.undo(), 4);
        due("goods", split.now(5), 16);
        due("claim", split.parcel(4, 2), 7);
        due("undo order", split.undo(), 3);
        due("place", split.now(2), 0);
        due("day", split.now(3), 0);
        due("zone", split.zone(0), 0);
        due("least", split.least(), 28);
        due("undo claim", split.undo(), 2);
        due("no claim", split.parcel(4, 2), -1);
        due("undo by", split.undo(), 1);
        due("carrier", split.parcel(4, 1), 0);
        due("undo put", split.undo(), 0);
        due("no goods", split.now(4), 0);
    }

    private static void refusedActs() {
        ParcelSplit split = Check.made(TEXT);
        split.put(0, 4);
        split.put(0, 4);
        split.put(9, 4);
        split.by(0, 9);
        split.claim(0, 5);
        split.order(9, 9);
        due("refused acts can't be undone", split.now(6), 1);
        due("undo of the one", split.undo(), 0);
        due("it is in none", Check.good(split, 0, 3), -1);
    }
}
