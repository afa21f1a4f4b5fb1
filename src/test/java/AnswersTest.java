/** Promises 6 to 19: what an object answers about goods, charges, splits and the plan. */
public final class AnswersTest {
    private static final Check CHECK = new Check();
    private static final int[] WILD = {Integer.MIN_VALUE, -1, Integer.MAX_VALUE};

    private static final String FIRST = "carrier 20 100 5 10 60 7;break 5 10 20 30;break 10 18 19 40;break 20 15 60 70;"
        + "zones 0 0 1 2 3;zones 50 1 0 3 2;";
    private static final String SECOND = "carrier 10 999 99 0 999 0;break 8 12 13 14;zones 0 0 1 2 3;";
    private static final String GOODS = "good 4 10 50;good 6 31 61;good 5 60 60;good 1 1 999;";
    private static final String TEXT = FIRST + SECOND + GOODS + "order 0 0;";

    public static void main(String[] args) {
        now();
        good();
        zone();
        rate();
        billed();
        charge();
        cheapest();
        least();
        leastRow();
        noSplit();
        bound();
        gap();
        parcel();
        total();
        would();
        CHECK.close();
    }

    private static void due(String what, long got, long want) {
        CHECK.due(what, got, want);
    }

    private static void now() {
        ParcelSplit split = Check.made(TEXT.replace("order 0 0", "order 2 31"));
        due("now(0)", split.now(0), 2);
        due("now(1)", split.now(1), 4);
        due("now(2)", split.now(2), 2);
        due("now(3)", split.now(3), 31);
        due("now(4)", split.now(4), 0);
        due("now(5)", split.now(5), 0);
        split.put(1, 7);
        split.put(3, 7);
        split.put(0, 2);
        split.by(4, 1);
        due("now(4) of three", split.now(4), 11);
        due("now(5) of two", split.now(5), 132);
        due("now(6)", split.now(6), 4);
        split.feed(1, 2, 3, 4, 5);
        split.end(13);
        due("now(7)", split.now(7), 13);
        due("now(8)", split.now(8), -1);
        for (int w : WILD) {
            due("now(" + w + ")", split.now(w), -1);
        }
    }

    private static void good() {
        ParcelSplit split = Check.made(TEXT);
        split.put(1, 6);
        int[][] want = {{4, 10, 50, -1}, {6, 31, 61, 6}, {5, 60, 60, -1}, {1, 1, 999, -1}};
        for (int g = 0; g < 4; g++) {
            for (int w = 0; w < 4; w++) {
                due("good(" + g + ", " + w + ")", Check.good(split, g, w), want[g][w]);
            }
            due("good(" + g + ", 4)", Check.good(split, g, 4), Check.THROWS);
        }
        due("good(4, 0)", Check.good(split, 4, 0), Check.THROWS);
        for (int w : WILD) {
            due("good(" + w + ", 0)", Check.good(split, w, 0), Check.THROWS);
            due("good(0, " + w + ")", Check.good(split, 0, w), Check.THROWS);
            due("good(" + w + ", " + w + ")", Check.good(split, w, w), Check.THROWS);
        }
        due("a throwing call changes nothing", split.now(6), 1);
    }

    private static void zone() {
        ParcelSplit split = Check.made(FIRST + "zones 60 2 2 2 2;" + SECOND + "order 0 0;");
        int[][] want = {{0, 0, 0}, {0, 49, 0}, {0, 50, 1}, {0, 59, 1}, {0, 60, 2}, {0, 99, 2}, {1, 0, 1}, {1, 50, 0},
            {2, 49, 2}, {2, 50, 3}, {2, 60, 2}, {3, 0, 3}, {3, 50, 2}};
        for (int[] w : want) {
            split.order(w[0], w[1]);
            due("zone at " + w[0] + " on " + w[1], split.zone(0), w[2]);
            due("zone of the second at " + w[0], split.zone(1), w[0]);
        }
        due("zone(2)", split.zone(2), -1);
        for (int w : WILD) {
            due("zone(" + w + ")", split.zone(w), -1);
        }
    }

    private static void rate() {
        ParcelSplit split = Check.made(TEXT);
        int[][] inFirstZone = {{1, 10}, {5, 10}, {6, 15}, {10, 15}, {11, 15}, {20, 15}, {21, -2}, {999, -2}, {1000, -1}, {0, -1}};
        for (int[] w : inFirstZone) {
            due("rate(0, " + w[0] + ")", split.rate(0, w[0]), w[1]);
        }
        due("rate(1, 8)", split.rate(1, 8), 12);
        due("rate(1, 9)", split.rate(1, 9), -2);
        due("rate(2, 1)", split.rate(2, 1), -1);
        for (int w : WILD) {
            due("rate(" + w + ", 1)", split.rate(w, 1), -1);
            due("rate(0, " + w + ")", split.rate(0, w), -1);
        }
        split.order(1, 0);
        int[][] inSecondZone = {{1, 19}, {5, 19}, {6, 19}, {10, 19}, {11, 60}, {20, 60}, {21, -2}};
        for (int[] w : inSecondZone) {
            due("rate(0, " + w[0] + ") in zone 1", split.rate(0, w[0]), w[1]);
        }
        due("rate(1, 8) in zone 1", split.rate(1, 8), 13);
        split.order(2, 0);
        due("rate(0, 5) in zone 2", split.rate(0, 5), 30);
        due("rate(0, 6) in zone 2", split.rate(0, 6), 40);
        ParcelSplit free = Check.made("carrier 9 9 9 0 9 0;break 2 0 4 4;break 4 5 0 4;break 6 0 4 0;zones 0 0 1 2 3;order 0 0;");
        int[][] withFree = {{0, 0, 0}, {1, 0, 4}, {2, 0, 0}};
        for (int[] w : withFree) {
            free.order(w[0], 0);
            due("rate with free lines in zone " + w[0], free.rate(0, 2), w[1]);
            due("rate above the first free line in zone " + w[0], free.rate(0, 5), w[2]);
        }
        split.order(3, 0);
        due("rate(0, 1) where it does not serve", split.rate(0, 1), -2);
        due("rate(0, 0) where it does not serve", split.rate(0, 0), -1);
        due("rate(0, 1000) where it does not serve", split.rate(0, 1000), -1);
    }

    private static void billed() {
        ParcelSplit split = Check.made(TEXT);
        int[][] want = {{1, 4, 4}, {2, 7, 6}, {4, 12, 5}, {8, 1, 1}, {3, 10, 10}, {6, 19, 11}, {15, 21, 16}, {12, 13, 6}};
        for (int[] w : want) {
            due("billed(" + w[0] + ", 0)", split.billed(w[0], 0), w[1]);
            due("billed(" + w[0] + ", 1)", split.billed(w[0], 1), w[2]);
        }
        noSuchSets(split);
        split.order(3, 0);
        due("billed where it does not serve", split.billed(2, 0), 7);
    }

    private static void noSuchSets(ParcelSplit split) {
        for (int set : new int[] {0, 16, 17, 256, -1, -16, Integer.MIN_VALUE, Integer.MAX_VALUE, 1 << 30}) {
            due("billed(" + set + ", 0)", split.billed(set, 0), -1);
            due("charge(" + set + ", 0)", split.charge(set, 0), -1);
            due("cheapest(" + set + ")", split.cheapest(set), -1);
        }
        for (int carrier : new int[] {2, 3, -1, Integer.MIN_VALUE, Integer.MAX_VALUE}) {
            due("billed(1, " + carrier + ")", split.billed(1, carrier), -1);
            due("charge(1, " + carrier + ")", split.charge(1, carrier), -1);
        }
    }

    private static void charge() {
        ParcelSplit split = Check.made(TEXT);
        int[][] want = {{1, 11, 12}, {2, 24, 12}, {4, 16, 12}, {8, 18, 12}, {3, 24, -5}, {14, 31, -3}, {15, -4, -3}, {10, 31, 12}};
        for (int[] w : want) {
            due("charge(" + w[0] + ", 0)", split.charge(w[0], 0), w[1]);
            due("charge(" + w[0] + ", 1)", split.charge(w[0], 1), w[2]);
        }
        split.order(3, 0);
        due("not served comes first", split.charge(15, 0), -2);
        ParcelSplit edges = Check.made("carrier 10 100 9 0 5 3;break 11 7 7 7;zones 0 0 0 0 3;"
            + "good 10 99 5;good 1 1 6;good 1 1 6;order 0 0;");
        due("kilos, litres, length as many as there may be", edges.charge(1, 0), 7);
        due("kilos above", edges.charge(3, 0), -3);
        due("two long goods", edges.charge(6, 0), 13);
        ParcelSplit orderOfWhy = Check.made("carrier 10 100 5 99 999 0;break 20 999 0 1;zones 0 0 1 2 3;"
            + "good 11 101 5;good 10 101 5;good 10 100 5;good 10 99 5;good 1 96 1;good 1 95 1;order 0 0;");
        int[] why = {-3, -4, 1988, 1988, 1988, 1988};
        for (int g = 0; g < why.length; g++) {
            due("charge of good " + g, orderOfWhy.charge(1 << g, 0), why[g]);
        }
        orderOfWhy.order(2, 0);
        due("fuel of 1 is cut", orderOfWhy.charge(32, 0), 1);
        ParcelSplit aboveUpto = Check.made("carrier 10 105 5 0 999 0;break 20 7 7 7;zones 0 0 0 0 0;"
            + "good 10 100 5;good 10 101 5;good 10 106 5;good 11 106 5;order 0 0;");
        due("billed as much as UPTO", aboveUpto.charge(1, 0), 7);
        due("billed above UPTO", aboveUpto.charge(2, 0), -5);
        due("litres ahead of billed", aboveUpto.charge(4, 0), -4);
        due("kilos ahead of litres", aboveUpto.charge(8, 0), -3);
    }

    private static void cheapest() {
        ParcelSplit split = Check.made(TEXT);
        due("cheapest(1)", split.cheapest(1), 0);
        due("cheapest(2)", split.cheapest(2), 1);
        due("cheapest(3)", split.cheapest(3), 0);
        due("cheapest(10)", split.cheapest(10), 1);
        due("cheapest(15)", split.cheapest(15), -2);
        split.order(3, 0);
        due("cheapest(1) where none serves", split.cheapest(1), -2);
        due("cheapest(0) where none serves", split.cheapest(0), -1);
        String like = "carrier 9 9 9 0 9 0;break 9 8 7 6;zones 0 3 0 1 2;";
        ParcelSplit likes = Check.made(like.replace("zones 0 3 0 1 2", "zones 0 3 3 1 1") + like + like + "good 1 1 1;order 1 0;");
        due("of like ones the first", likes.cheapest(1), 1);
        likes.order(2, 0);
        due("of three like ones", likes.cheapest(1), 0);
        likes.order(3, 0);
        due("the second is cheaper", likes.cheapest(1), 1);
    }

    private static void least() {
        ParcelSplit split = Check.made(TEXT);
        due("least: 0 and 2 together by 0, 1 and 3 by 1", split.least(), 28);
        due("parcel of good 0", split.split(0, 0), 0);
        due("parcel of good 1", split.split(1, 0), 1);
        due("parcel of good 2", split.split(2, 0), 0);
        due("parcel of good 3", split.split(3, 0), 1);
        due("carrier of good 0", split.split(0, 1), 0);
        due("carrier of good 1", split.split(1, 1), 1);
        due("carrier of good 2", split.split(2, 1), 0);
        due("carrier of good 3", split.split(3, 1), 1);
        for (int w : new int[] {2, 3, -1, Integer.MIN_VALUE, Integer.MAX_VALUE}) {
            due("split(0, " + w + ")", split.split(0, w), -1);
        }
        for (int g : new int[] {4, 8, -1, Integer.MIN_VALUE, Integer.MAX_VALUE}) {
            due("split(" + g + ", 0)", split.split(g, 0), -1);
        }
        ParcelSplit none = Check.made(FIRST + "order 3 0;");
        due("least without goods, not served", none.least(), 0);
        due("split without goods", none.split(0, 0), -1);
    }

    private static int row(ParcelSplit split, int goods) {
        int row = 0;
        for (int g = 0; g < goods; g++) {
            row = row * 100 + 3 * split.split(g, 0) + split.split(g, 1);
        }
        return row;
    }

    /** Of like splits: the row has the carrier, so a split in two may stand ahead of one in one. */
    private static void leastRow() {
        String zones = "zones 0 0 0 0 0;";
        ParcelSplit free = Check.made("carrier 9 9 9 0 9 0;break 9 0 0 0;" + zones + "good 1 1 1;".repeat(4) + "order 0 0;");
        due("all free: all in one", row(free, 4), 0);
        ParcelSplit two = Check.made("carrier 1 9 9 0 9 0;break 9 2 0 0;" + zones + "carrier 9 9 9 0 9 0;break 9 4 0 0;" + zones
            + "good 1 1 1;good 1 1 1;order 0 0;");
        due("like charges", two.least(), 4);
        due("two by the first ahead of one by the second", row(two, 2), 3);
        ParcelSplit three = Check.made("carrier 2 9 9 0 9 0;break 9 5 0 0;" + zones + "good 1 1 1;good 1 1 1;good 1 1 1;order 0 0;");
        due("three in twos", three.least(), 10);
        due("the first two together", row(three, 3), 3);
        ParcelSplit heavy = Check.made("carrier 3 9 9 0 9 0;break 9 5 0 0;" + zones + "good 2 1 1;good 2 1 1;good 1 1 1;good 1 1 1;order 0 0;");
        due("two and two", heavy.least(), 10);
        due("good 2 goes with good 0", row(heavy, 4), 30003);
        String eight = "carrier 1 9 9 0 9 0;break 9 1 1 1;" + zones + "good 1 1 1;".repeat(8) + "order 0 0;";
        ParcelSplit alone = Check.made(eight);
        for (int g = 0; g < 8; g++) {
            due("each good alone", alone.split(g, 0), g);
        }
        due("eight parcels", alone.least(), 8);
        ParcelSplit byThird = Check.made("carrier 1 9 9 0 9 0;break 9 9 9 9;" + zones + "carrier 1 9 9 0 9 0;break 9 9 9 9;" + zones
            + "carrier 2 9 9 0 9 0;break 9 4 4 4;" + zones + "good 1 1 1;".repeat(8) + "order 0 0;");
        due("four parcels", byThird.least(), 16);
        for (int g = 0; g < 8; g++) {
            due("goods two by two", byThird.split(g, 0), g / 2);
            due("all by the third", byThird.split(g, 1), 2);
        }
    }

    private static void noSplit() {
        ParcelSplit split = Check.made("carrier 9 9 9 0 9 0;break 9 1 1 1;zones 0 0 0 0 3;good 1 1 1;good 10 1 1;order 0 0;");
        due("a good that nobody takes: least", split.least(), -2);
        due("split", split.split(0, 0), -2);
        due("split's carrier", split.split(0, 1), -2);
        due("no such good first", split.split(2, 0), -1);
        due("no such what first", split.split(0, 2), -1);
        due("bound", split.bound(), 2);
        due("gap", split.gap(), -1);
        due("would", split.would(0, 1), -2);
        due("take", split.take(), -2);
        due("nothing was done", split.now(6), 0);
    }

    private static void bound() {
        ParcelSplit split = Check.made(TEXT);
        due("16 kilos by 15 for 20", split.bound(), 12);
        split.order(1, 0);
        due("16 kilos by 13 for 8", split.bound(), 26);
        split.order(2, 0);
        due("16 kilos by 14 for 8", split.bound(), 28);
        split.order(2, 50);
        due("the first does not serve", split.bound(), 28);
        split.order(3, 50);
        due("the second does not serve: 16 by 70 for 20", split.bound(), 56);
        split.order(3, 0);
        due("none serves", split.bound(), -2);
        due("none serves: gap", split.gap(), -1);
        ParcelSplit none = Check.made(FIRST + "order 3 0;");
        due("none serves, no goods", none.bound(), -2);
        due("none serves, no goods: gap", none.gap(), -1);
        ParcelSplit up = Check.made("carrier 99 9 9 0 9 0;break 7 1 2 0;zones 0 0 1 2 3;good 8 1 1;order 0 0;");
        due("8 by 7, up", up.bound(), 2);
        up.order(1, 0);
        due("16 by 7, up", up.bound(), 3);
        up.order(2, 0);
        due("free", up.bound(), 0);
        ParcelSplit free = Check.made("carrier 99 9 9 0 9 0;break 7 0 2 3;break 9 1 0 2;zones 0 0 1 2 3;"
            + "carrier 99 9 9 0 9 0;break 7 5 5 2;zones 0 0 1 2 3;good 8 1 1;order 0 0;");
        due("the first line is free", free.bound(), 0);
        free.order(1, 0);
        due("the second line is free", free.bound(), 0);
        free.order(2, 0);
        due("8 by 2 for 9", free.bound(), 2);
    }

    private static void gap() {
        ParcelSplit split = Check.made(TEXT);
        due("gap", split.gap(), 16);
        ParcelSplit none = Check.made(FIRST + "order 0 0;");
        due("gap without goods", none.gap(), 0);
    }

    private static void parcel() {
        ParcelSplit split = Check.made(TEXT);
        split.put(0, 3);
        split.put(2, 3);
        int[] unclaimed = {5, 0, -1, 16, 16};
        for (int w = 0; w < 5; w++) {
            due("parcel(3, " + w + ")", split.parcel(3, w), unclaimed[w]);
        }
        split.claim(3, 15);
        int[] claimed = {5, 0, 15, 16, 16};
        for (int w = 0; w < 5; w++) {
            due("parcel(3, " + w + ") with a claim", split.parcel(3, w), claimed[w]);
        }
        split.claim(3, 1);
        due("billed by litres still", split.parcel(3, 4), 16);
        split.claim(3, 21);
        due("claimed above MOST", split.parcel(3, 4), -3);
        due("not so by goods", split.parcel(3, 3), 16);
        split.by(3, 1);
        due("by goods above UPTO", split.parcel(3, 3), -5);
        split.claim(3, 8);
        due("by a claim not", split.parcel(3, 4), 12);
        split.order(3, 0);
        due("not served by goods", split.parcel(3, 3), -2);
        due("not served by claim", split.parcel(3, 4), -2);
        int[] empty = {0, 0, -1, 0, 0};
        for (int w = 0; w < 5; w++) {
            due("parcel(7, " + w + ") without goods", split.parcel(7, w), empty[w]);
        }
        for (int w : new int[] {5, 8, -1, Integer.MIN_VALUE, Integer.MAX_VALUE}) {
            due("parcel(0, " + w + ")", split.parcel(0, w), -100);
        }
        for (int p : new int[] {8, -1, Integer.MIN_VALUE, Integer.MAX_VALUE}) {
            due("parcel(" + p + ", 0)", split.parcel(p, 0), -100);
        }
        ParcelSplit longOne = Check.made(TEXT);
        longOne.put(3, 0);
        longOne.claim(0, 6);
        due("a claim with extra and fuel", longOne.parcel(0, 4), 24);
    }

    private static void total() {
        ParcelSplit split = Check.made(TEXT);
        due("total without parcels", split.total(0), 0);
        due("total by claims without parcels", split.total(1), 0);
        split.put(0, 7);
        split.put(1, 2);
        due("total of two", split.total(0), 35);
        due("total by claims, none there", split.total(1), 35);
        split.claim(7, 6);
        due("total by goods", split.total(0), 35);
        due("total by claims", split.total(1), 40);
        split.claim(7, 21);
        due("total by goods still", split.total(0), 35);
        due("total with a claim too heavy", split.total(1), -2);
        split.claim(7, 0);
        split.put(2, 7);
        split.put(3, 7);
        split.put(1, 7);
        due("a parcel too big", split.total(0), -2);
        for (int w : new int[] {2, -1, Integer.MIN_VALUE, Integer.MAX_VALUE}) {
            due("total(" + w + ")", split.total(w), -1);
        }
        split.order(3, 0);
        split.put(0, -1);
        split.put(1, -1);
        split.put(2, -1);
        split.put(3, -1);
        due("no parcel has goods where none serves", split.total(0), 0);
    }

    private static void would() {
        ParcelSplit split = Check.made(TEXT);
        due("would it be as it is", split.would(0, 0), 28);
        due("would(0, 49)", split.would(0, 49), 28);
        due("would(3, 0)", split.would(3, 0), -2);
        for (int place = 0; place < 4; place++) {
            for (int day = 0; day < 100; day += 33) {
                ParcelSplit other = Check.made(TEXT.replace("order 0 0", "order " + place + " " + day));
                due("would(" + place + ", " + day + ")", split.would(place, day), other.least());
            }
        }
        due("nothing was done", split.now(6), 0);
        due("place stays", split.now(2), 0);
        for (int w : new int[] {4, -1, Integer.MIN_VALUE, Integer.MAX_VALUE}) {
            due("would(" + w + ", 0)", split.would(w, 0), -1);
        }
        for (int w : new int[] {100, -1, Integer.MIN_VALUE, Integer.MAX_VALUE}) {
            due("would(0, " + w + ")", split.would(0, w), -1);
        }
        due("would without goods", Check.made(FIRST + "order 0 0;").would(3, 0), 0);
    }
}
