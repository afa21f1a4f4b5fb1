import java.util.Random;

/** 'What it is' and the Terms: the sentences of the document that stand ahead of all promises and belong to several. */
final class TermBoundaries {
    private static final String FIRST = "carrier 20 100 5 10 60 7;break 5 10 20 30;break 10 40 50 60;break 20 15 60 70;"
        + "zones 0 0 1 2 3;zones 50 1 2 0 3;";
    private static final String SECOND = "carrier 10 999 99 0 999 0;break 8 12 13 14;zones 0 0 1 2 3;";
    /** Kilos 4, 6, 5, 1; billed by the first carrier 4, 7, 12, 1, by the second 4, 6, 5, 1. */
    private static final String GOODS = "good 4 10 50;good 6 31 61;good 5 60 60;good 1 1 999;";
    private static final String TEXT = FIRST + SECOND + GOODS + "order 0 10;";
    private static final String ONE = Texts.ONE;
    private static final int RANDOM_TEXTS = 60;

    private final Check check;
    private final Texts texts;

    TermBoundaries(Check check) {
        this.check = check;
        texts = new Texts(check);
    }

    void run() {
        weightByPlace();
        prices();
        splits();
        byHand();
        weighed();
        toldAndUndone();
        noToken();
        cannotCome();
        setsOfGoods();
        ofEachCarrier();
        allGoodsEachInOne();
        boundBelowAll();
        planAtFirst();
    }

    private void due(String what, long got, long want) {
        check.due(what, got, want);
    }

    // ---- what it is, by one order

    private void weightByPlace() {
        ParcelSplit split = Check.made(TEXT);
        check.about(10, "with weight by size");
        int[] byFirst = {4, 7, 12, 1};
        int[] kilos = {4, 6, 5, 1};
        for (int g = 0; g < 4; g++) {
            due("good " + g + " by its size", split.billed(1 << g, 0), byFirst[g]);
            due("good " + g + " by its kilos", split.billed(1 << g, 1), kilos[g]);
        }
        check.about(8, "zones by dated editions");
        int[][] zones = {{0, 1, 2, 3}, {1, 2, 0, 3}};
        for (int place = 0; place < 4; place++) {
            split.order(place, 49);
            due("the first edition at " + place, split.zone(0), zones[0][place]);
            split.order(place, 50);
            due("the second edition at " + place, split.zone(0), zones[1][place]);
            due("the other carrier has one alone, at " + place, split.zone(1), zones[0][place]);
        }
    }

    private void prices() {
        ParcelSplit split = Check.made(TEXT);
        check.about(9, "prices by breakpoints where a higher one may be the cheaper");
        due("5 kilos by the lowest", split.rate(0, 5), 10);
        due("6 kilos by the highest, which is cheaper than the one between", split.rate(0, 6), 15);
        split.order(1, 10);
        due("6 kilos by the one between, which is cheaper here", split.rate(0, 6), 50);
        due("11 kilos by the highest alone", split.rate(0, 11), 60);
        split.order(0, 10);
        check.about(11, "surcharges for long goods");
        due("good 1, above LONG: 15 and 7, and 2 for fuel", split.charge(0b0010, 0), 24);
        due("good 2, not above LONG: 15, and 1 for fuel", split.charge(0b0100, 0), 16);
        check.about(11, "fuel");
        due("good 0: 10, and 1 for fuel", split.charge(0b0001, 0), 11);
        due("good 0 without fuel", split.charge(0b0001, 1), 12);
        check.about(11, "what a set of goods is charged by whom and why not at all");
        due("goods 0 and 1 by the first", split.charge(0b0011, 0), 24);
        due("goods 0 and 1 by the second: billed above all", split.charge(0b0011, 1), -5);
        due("goods 1 and 2 by the second: too heavy", split.charge(0b0110, 1), -3);
        due("all goods by the first: too big", split.charge(0b1111, 0), -4);
        due("by whom", split.cheapest(0b0010), 1);
        split.order(3, 10);
        due("not served", split.charge(0b0001, 0), -2);
    }

    private void splits() {
        ParcelSplit split = Check.made(TEXT);
        check.about(22, "goods of an order cut into parcels over carriers");
        due("how many parcels", split.take(), 2);
        due("by the first", split.parcel(0, 1), 0);
        due("by the second", split.parcel(1, 1), 1);
        check.about(13, "the split of least charge");
        due("goods 0 and 2 for 16, 1 and 3 for 12", split.least(), 28);
        check.about(14, "of like ones the first");
        ParcelSplit like = Check.made("carrier 9 9 9 0 9 0;break 2 4 0 0;zones 0 0 0 0 0;".repeat(2) + Texts.GOOD.repeat(3) + "order 0 0;");
        int[] row = {0, 0, 3};
        for (int g = 0; g < 3; g++) {
            due("good " + g + " of like splits", 3 * like.split(g, 0) + like.split(g, 1), row[g]);
        }
        check.about(16, "a bound below it and the gap");
        due("16 kilos by 15 for 20", split.bound(), 12);
        due("28 less 12", split.gap(), 16);
    }

    private void byHand() {
        ParcelSplit split = Check.made(TEXT);
        check.about(20, "parcels put together by hand");
        for (int g = 0; g < 4; g++) {
            split.put(g, g / 2);
        }
        due("goods 0 and 1", split.parcel(0, 0), 0b0011);
        due("goods 2 and 3", split.parcel(1, 0), 0b1100);
        due("their charges: 24 and 24", split.total(0), 48);
        split.by(1, 1);
        due("their charges: 24 and 12", split.total(0), 36);
        check.about(22, "or as the least split has them");
        split.take();
        due("goods 0 and 2", split.parcel(0, 0), 0b0101);
        due("goods 1 and 3", split.parcel(1, 0), 0b1010);
        due("their charges", split.total(0), 28);
    }

    private void weighed() {
        ParcelSplit split = Check.made(TEXT);
        split.take();
        check.about(23, "claims by what was weighed, re-rated");
        split.claim(1, 8);
        due("8 kilos: no more", split.total(1), 28);
        split.claim(1, 9);
        due("9 kilos: billed above all", split.parcel(1, 4), -5);
        split.by(1, 0);
        due("9 kilos by the first: 15 and 14, and 2 for fuel", split.parcel(1, 4), 31);
        check.about(23, "CLAIMED of a PARCEL with GOODS: KILOS that somebody weighed");
        due("what was weighed", split.parcel(1, 2), 9);
        due("of the other parcel nothing was", split.parcel(0, 2), -1);
        due("a parcel without goods can't be weighed", split.claim(2, 9), -1);
        due("the goods weigh what they did", Check.good(split, 1, 0), 6);
    }

    private void toldAndUndone() {
        check.about(4, "told as a text");
        ParcelSplit split = new ParcelSplit();
        due("its lines", Check.read(split, TEXT), 14);
        int[] now = {2, 4, 0, 10};
        for (int w = 0; w < 4; w++) {
            due("now(" + w + ")", split.now(w), now[w]);
        }
        check.about(25, "acts undone");
        split.put(3, 6);
        split.claim(6, 2);
        split.take();
        split.order(2, 60);
        for (int i = 3; i >= 0; i--) {
            due("undo", split.undo(), i);
        }
        due("no good is in a parcel", split.now(4), 0);
        due("nothing is claimed", split.parcel(6, 2), -1);
        due("the place", split.now(2), 0);
    }

    // ---- terms of a text

    private void noToken() {
        check.about(4, "what is not as told is no TOKEN");
        for (String none : new String[] {"order1", "1order", "0order0", "Order", "_order", "1000", "0000", "-1", "+", "'", "\"", ",", "\t", "{"}) {
            texts.failsAtMark(ONE + "#" + none + " 1 2;", 1);
        }
        for (String none : new String[] {"1a", "a1", "0001", "1000", "-1", "+1", ".5", "\0", "x1x"}) {
            texts.failsAtMark(ONE + "order 1 #" + none + ";", 1);
        }
    }

    /** A number where a word is due, a word where a number is, a sign where neither is. */
    private void cannotCome() {
        check.about(5, "1 no TOKEN, or one that can't come (at it");
        String[] words = {"carrier", "break", "zones", "good", "order", "x"};
        String[] ahead = {"", Texts.CARRIER, Texts.CARRIER + Texts.BREAK, ONE, ONE + Texts.GOOD, ONE + Texts.ORDER};
        boolean[][] comes = {
            {true, false, false, false, false, false},
            {false, true, false, false, false, false},
            {false, true, true, false, false, false},
            {true, false, true, true, true, false},
            {false, false, false, true, true, false},
            {false, false, false, false, false, false}};
        for (int a = 0; a < ahead.length; a++) {
            for (int w = 0; w < words.length; w++) {
                String mark = comes[a][w] ? words[w] + " #" : "#" + words[w];
                texts.failsAtMark(ahead[a] + " " + mark, 1);
                texts.failsAtMark(ahead[a] + "\n" + mark + "x", 1);
            }
            texts.failsAtMark(ahead[a] + " #1", 1);
            texts.failsAtMark(ahead[a] + " #;", 1);
        }
    }

    // ---- terms of charges and splits

    private void setsOfGoods() {
        check.about(10, "Of a set of GOODS (one at least) KILOS, LITRES: those of all together.");
        ParcelSplit split = Check.made("carrier 99 999 10 0 999 0;break 99 1 1 1;zones 0 0 0 0 0;"
            + "carrier 99 999 99 0 999 0;break 99 1 1 1;zones 0 0 0 0 0;"
            + "good 1 3 1;good 2 6 1;good 4 12 1;good 8 24 1;good 16 48 1;good 20 96 1;good 23 192 1;good 25 384 1;order 0 0;");
        int[] kilos = {1, 2, 4, 8, 16, 20, 23, 25};
        for (int set = 1; set < 256; set++) {
            int sum = 0;
            for (int g = 0; g < 8; g++) {
                sum += (set >> g & 1) * kilos[g];
            }
            int size = (3 * set + 9) / 10;
            due("billed(" + set + ", 0): kilos " + sum + ", by size " + size, split.billed(set, 0), Math.max(sum, size));
        }
        due("kilos of all alone", split.billed(255, 1), 99);
    }

    private void ofEachCarrier() {
        ParcelSplit split = Check.made("carrier 9 9 2 0 9 0;break 9 5 6 7;zones 0 2 1 0 3;"
            + "carrier 9 9 3 0 9 0;break 9 2 3 4;zones 0 0 2 3 1;good 1 6 9;order 0 0;");
        int[][] zones = {{2, 1, 0, 3}, {0, 2, 3, 1}};
        int[][] charges = {{7, 6, 5, -2}, {2, 4, -2, 3}};
        int[] billed = {3, 2};
        for (int place = 0; place < 4; place++) {
            split.order(place, place);
            for (int c = 0; c < 2; c++) {
                String what = " of " + c + " at " + place;
                check.about(8, "ZONE of a CARRIER: Z of the order's PLACE");
                due("zone" + what, split.zone(c), zones[c][place]);
                check.about(10, "BILLED by a CARRIER: KILOS, or LITRES by BY");
                due("billed" + what, split.billed(1, c), billed[c]);
                check.about(9, "RATE of a CARRIER for BILLED kilos: of its 'break' LINES");
                due("rate" + what, split.rate(c, 9), charges[c][place]);
                check.about(11, "CHARGE of a set by a CARRIER: RATE, and EXTRA for each GOOD of it whose LENGTH is above LONG");
                due("charge" + what, split.charge(1, c), charges[c][place]);
            }
        }
    }

    private void allGoodsEachInOne() {
        check.about(14, "SPLIT: all GOODS of the order in PARCELS, each in one, each PARCEL by one CARRIER that has a CHARGE for it.");
        Random random = new Random(7);
        Writer writer = new Writer(random);
        int found = 0;
        for (int i = 0; i < RANDOM_TEXTS; i++) {
            ParcelSplit split = Check.made(writer.right(1 + i % 6));
            if (split.least() >= 0) {
                found += split.now(1) > 0 ? 1 : 0;
                isASplit("text " + i, split);
            }
        }
        check.due("most texts have a split", found > RANDOM_TEXTS / 3, true);
    }

    private void isASplit(String what, ParcelSplit split) {
        int goods = split.now(1);
        int[] sets = new int[8];
        int[] carriers = new int[8];
        int used = 0;
        for (int g = 0; g < goods; g++) {
            int parcel = split.split(g, 0);
            check.due(what + ": good " + g + " is in a parcel that is begun, or in the next", parcel >= 0 && parcel <= used, true);
            used = Math.max(used, parcel + 1);
            carriers[parcel] = sets[parcel] == 0 ? split.split(g, 1) : carriers[parcel];
            due(what + ": its parcel goes by one carrier", split.split(g, 1), carriers[parcel]);
            sets[parcel] |= 1 << g;
        }
        int sum = 0;
        for (int p = 0; p < used; p++) {
            int charge = split.charge(sets[p], carriers[p]);
            check.due(what + ": parcel " + p + " has a charge", charge >= 0, true);
            sum += charge;
        }
        due(what + ": together they are the least", split.least(), sum);
        due(what + ": take() has as many", split.take(), used);
        due(what + ": all goods are in parcels", split.now(4), (1 << goods) - 1);
        due(what + ": the plan's total", split.total(0), sum);
    }

    /** A plan by hand is never below the least split, nor that below the bound. */
    private void boundBelowAll() {
        check.about(15, "BOUND.");
        Random random = new Random(8);
        Writer writer = new Writer(random);
        for (int i = 0; i < RANDOM_TEXTS; i++) {
            ParcelSplit split = Check.made(writer.right(1 + i % 6));
            for (int g = 0; g < split.now(1); g++) {
                split.put(g, random.nextInt(3));
            }
            for (int p = 0; p < 3; p++) {
                split.by(p, random.nextInt(split.now(0)));
            }
            int least = split.least();
            int total = split.total(0);
            check.due("text " + i + ": a plan with a charge is a split", total < 0 || least >= 0 && total >= least, true);
            check.due("text " + i + ": the bound is not above the least", least < 0 || split.bound() <= least, true);
        }
        check.about(15, "BOUND: KILOS of all GOODS times the least P by UPTO");
        due("of all goods, in a parcel or not", bound(true), bound(false));
        check.about(16, "GAP.");
        ParcelSplit split = Check.made(TEXT);
        due("gap() is least() less bound()", split.gap(), split.least() - split.bound());
    }

    private static int bound(boolean packed) {
        ParcelSplit split = Check.made(TEXT);
        if (packed) {
            split.put(0, 0);
            split.claim(0, 99);
        }
        return split.bound();
    }

    private void planAtFirst() {
        check.about(17, "A PLAN: of each GOOD the PARCEL 0 to 7 in which it is, or none (at first); of each PARCEL a CARRIER (0 at first).");
        ParcelSplit split = Check.made(FIRST + SECOND + SECOND + Texts.GOOD.repeat(8) + "order 0 0;");
        for (int i = 0; i < 8; i++) {
            due("the parcel of good " + i + " at first", Check.good(split, i, 3), -1);
            due("the carrier of parcel " + i + " at first", split.parcel(i, 1), 0);
        }
        for (int i = 0; i < 8; i++) {
            split.put(i, 7 - i);
            split.by(i, i % 3);
        }
        for (int i = 0; i < 8; i++) {
            due("the parcel of good " + i, Check.good(split, i, 3), 7 - i);
            due("the goods of parcel " + i, split.parcel(i, 0), 1 << 7 - i);
            due("the carrier of parcel " + i, split.parcel(i, 1), i % 3);
        }
    }
}
