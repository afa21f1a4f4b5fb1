/** The boundary cases of promises 6 to 19: what is asked. */
final class AnswerBoundaries {
    private static final int LEAST_INT = Integer.MIN_VALUE;
    private static final int MOST_INT = Integer.MAX_VALUE;
    private static final String FREE = "carrier 99 999 99 0 999 0;break 99 0 0 0;zones 0 0 0 0 0;";
    private static final String GOOD = Texts.GOOD;
    /** As many carriers and goods as there can be; each good alone is 4, 5 or 6 by the carrier. */
    private static final String ALL = "carrier 1 999 99 0 999 0;break 9 4 4 4;zones 0 0 1 2 3;"
        + "carrier 1 999 99 0 999 0;break 9 5 5 5;zones 0 0 1 2 3;"
        + "carrier 1 999 99 0 999 0;break 9 6 6 6;zones 0 0 1 2 3;" + GOOD.repeat(8) + "order 0 0;";
    private static final String NO_GOODS = "carrier 9 9 9 0 9 0;break 5 1 2 3;zones 0 0 1 2 3;order 0 0;";

    private final Check check;

    AnswerBoundaries(Check check) {
        this.check = check;
    }

    void run() {
        now();
        good();
        zone();
        rate();
        rateByBreaks();
        breaksOfOthers();
        noSuchSets();
        billed();
        whyInTurn();
        whyAtTheEdges();
        chargeOfLongGoods();
        fuelIsCut();
        cheapest();
        least();
        leastOfLikeOnes();
        chargeAheadOfRow();
        splitInAllZones();
        split();
        bound();
        boundWithFreeOnes();
        gap();
        parcel();
        parcelByClaim();
        total();
        would();
        dayOfANewEdition();
        moreCalls();
    }

    private void due(String what, long got, long want) {
        check.due(what, got, want);
    }

    private static String carrier(String terms, String breaks) {
        return "carrier " + terms + ";" + breaks + "zones 0 0 1 2 3;";
    }

    // ---- promises 6 to 8

    private void now() {
        check.about(6, "0 CARRIERS, 1 GOODS, 2 PLACE, 3 DAY, 4 GOODS in a PARCEL (bits), 5 PARCELS with GOODS (bits), "
            + "6 what can be undone, 7 bytes of the tape.");
        ParcelSplit few = Check.made(NO_GOODS);
        int[] least = {1, 0, 0, 0, 0, 0, 0, 0};
        for (int w = 0; w < 8; w++) {
            due("now(" + w + ") at its least", few.now(w), least[w]);
        }
        ParcelSplit many = Check.made(ALL.replace("order 0 0", "order 3 99"));
        for (int i = 0; i < 3; i++) {
            many.by(i, 2);
        }
        for (int g = 0; g < 8; g++) {
            many.put(g, g);
        }
        Check.lay(many, " ".repeat(740));
        int[] most = {3, 8, 3, 99, 255, 255, 10, 740};
        for (int w = 0; w < 8; w++) {
            due("now(" + w + ") at its most", many.now(w), most[w]);
        }
        many.put(7, 0);
        due("now(4) with two in one", many.now(4), 255);
        due("now(5) with two in one", many.now(5), 127);
        many.put(0, -1);
        due("now(4) without good 0", many.now(4), 254);
        due("now(5): parcel 0 has good 7", many.now(5), 127);
        many.put(7, -1);
        due("now(4) without two", many.now(4), 126);
        due("now(5) without parcel 0", many.now(5), 126);
        ParcelSplit one = Check.made(ALL);
        for (int g = 0; g < 8; g++) {
            one.put(g, 7);
        }
        due("now(4) with all in one", one.now(4), 255);
        due("now(5) with all in one", one.now(5), 128);
        check.about(6, "NONE for another what.");
        for (int w : new int[] {8, 9, -1, -2, LEAST_INT, MOST_INT}) {
            due("now(" + w + ")", many.now(w), -1);
        }
    }

    private void good() {
        check.about(7, "Of a GOOD 0 KILOS, 1 LITRES, 2 LENGTH, 3 its PARCEL (NONE: none).");
        ParcelSplit split = Check.made(FREE + "good 99 1 999;" + GOOD.repeat(6) + "good 1 999 1;order 0 0;");
        int[][] want = {{99, 1, 999, -1}, {1, 999, 1, -1}};
        for (int w = 0; w < 4; w++) {
            due("good(0, " + w + ")", Check.good(split, 0, w), want[0][w]);
            due("good(7, " + w + ")", Check.good(split, 7, w), want[1][w]);
        }
        split.put(7, 0);
        due("good(7, 3) in the first parcel", Check.good(split, 7, 3), 0);
        split.put(7, 7);
        due("good(7, 3) in the last", Check.good(split, 7, 3), 7);
        split.put(7, -1);
        due("good(7, 3) in none", Check.good(split, 7, 3), -1);
        check.about(7, "NoSuchElementException: no such one, another what.");
        for (int w : new int[] {4, -1, LEAST_INT, MOST_INT}) {
            due("good(0, " + w + ")", Check.good(split, 0, w), Check.THROWS);
            due("good(7, " + w + ")", Check.good(split, 7, w), Check.THROWS);
        }
        for (int w = -1; w < 5; w++) {
            for (int g : new int[] {8, -1, LEAST_INT, MOST_INT}) {
                due("good(" + g + ", " + w + ")", Check.good(split, g, w), Check.THROWS);
            }
        }
        for (int goods = 0; goods < 8; goods++) {
            ParcelSplit some = Check.made(FREE + GOOD.repeat(goods) + "order 0 0;");
            due("good(" + goods + ", 0) of " + goods, Check.good(some, goods, 0), Check.THROWS);
            due("the last of " + goods, Check.good(some, goods - 1, 0), goods == 0 ? Check.THROWS : 1);
        }
    }

    private void zone() {
        check.about(8, "ZONE of a CARRIER (3: not served). NONE: no such one.");
        ParcelSplit three = Check.made(ALL);
        for (int place = 0; place < 4; place++) {
            three.order(place, 99);
            for (int c = 0; c < 3; c++) {
                due("zone(" + c + ") at " + place, three.zone(c), place);
            }
        }
        for (int c : new int[] {3, 4, -1, LEAST_INT, MOST_INT}) {
            due("zone(" + c + ") of three", three.zone(c), -1);
        }
        due("zone(1) of one", Check.made(NO_GOODS).zone(1), -1);
        due("zone(2) of two", Check.made(FREE + NO_GOODS).zone(2), -1);
        check.about(8, "Z of the order's PLACE by its last 'zones' LINE whose FROM is not above the order's DAY.");
        ParcelSplit dated = Check.made("carrier 9 9 9 0 9 0;break 9 1 1 1;zones 0 0 1 2 3;zones 1 1 2 3 0;zones 99 2 3 0 1;"
            + "carrier 9 9 9 0 9 0;break 9 1 1 1;zones 0 0 1 2 3;zones 50 3 2 1 0;order 0 0;");
        int[] days = {0, 1, 2, 49, 50, 98, 99};
        int[] turned = {0, 1, 1, 1, 1, 1, 2};
        for (int i = 0; i < days.length; i++) {
            for (int place = 0; place < 4; place++) {
                dated.order(place, days[i]);
                due("zone(0) at " + place + " on " + days[i], dated.zone(0), (place + turned[i]) % 4);
                due("zone(1) at " + place + " on " + days[i], dated.zone(1), days[i] < 50 ? place : 3 - place);
            }
        }
    }

    // ---- promise 9

    private void rate() {
        check.about(9, "RATE of a CARRIER for BILLED kilos (1 to 999).");
        ParcelSplit split = Check.made(ALL);
        for (int c = 0; c < 3; c++) {
            due("rate(" + c + ", 1)", split.rate(c, 1), 4 + c);
            due("rate(" + c + ", 9)", split.rate(c, 9), 4 + c);
        }
        check.about(9, "-2: it does not serve the PLACE, BILLED is above all UPTO.");
        due("rate(0, 10)", split.rate(0, 10), -2);
        due("rate(0, 999)", split.rate(0, 999), -2);
        split.order(3, 0);
        due("rate(0, 1) where it does not serve", split.rate(0, 1), -2);
        due("rate(0, 999) where it does not serve", split.rate(0, 999), -2);
        check.about(9, "NONE: no such ones.");
        for (int place : new int[] {0, 3}) {
            split.order(place, 0);
            for (int billed : new int[] {0, -1, 1000, LEAST_INT, MOST_INT}) {
                due("rate(0, " + billed + ") at " + place, split.rate(0, billed), -1);
            }
            for (int c : new int[] {3, -1, LEAST_INT, MOST_INT}) {
                due("rate(" + c + ", 1) at " + place, split.rate(c, 1), -1);
                due("rate(" + c + ", 0) at " + place, split.rate(c, 0), -1);
            }
        }
    }

    private void rateByBreaks() {
        check.about(9, "of its 'break' LINES with UPTO not below that the least P of its ZONE");
        ParcelSplit one = Check.made(carrier("9 9 9 0 9 0", "break 1 999 0 998;") + "order 0 0;");
        int[] ofOne = {999, 0, 998};
        for (int place = 0; place < 3; place++) {
            one.order(place, 0);
            due("rate(0, 1) at " + place, one.rate(0, 1), ofOne[place]);
            due("rate(0, 2) at " + place, one.rate(0, 2), -2);
        }
        String five = "break 1 9 1 5;break 2 8 2 4;break 50 7 3 9;break 98 6 4 0;break 99 5 5 7;";
        ParcelSplit many = Check.made(carrier("9 9 9 0 9 0", five) + "order 0 0;");
        int[] billed = {1, 2, 3, 50, 51, 98, 99, 100};
        int[][] rates = {{5, 5, 5, 5, 5, 5, 5, -2}, {1, 2, 3, 3, 4, 4, 5, -2}, {0, 0, 0, 0, 0, 0, 7, -2}};
        for (int place = 0; place < 3; place++) {
            many.order(place, 0);
            for (int i = 0; i < billed.length; i++) {
                due("rate(0, " + billed[i] + ") at " + place, many.rate(0, billed[i]), rates[place][i]);
            }
        }
    }

    /** A carrier with as many lines as told has none of the next one's, nor of an earlier text's. */
    private void breaksOfOthers() {
        check.about(9, "of its 'break' LINES");
        String five = "break 1 9 9 9;break 2 9 9 9;break 3 9 9 9;break 4 9 9 9;break 5 9 9 9;";
        ParcelSplit split = Check.made(carrier("99 99 9 0 9 0", five) + carrier("99 99 9 0 9 0", "break 99 1 1 1;") + "order 0 0;");
        due("rate(0, 5)", split.rate(0, 5), 9);
        due("rate(0, 6)", split.rate(0, 6), -2);
        due("rate(1, 5)", split.rate(1, 5), 1);
        ParcelSplit behind = Check.made(carrier("99 99 9 0 9 0", five.replace("break 5 9 9 9", "break 99 1 1 1"))
            + carrier("99 99 9 0 9 0", "break 5 9 9 9;") + "order 0 0;");
        due("rate(0, 99) by the fifth line", behind.rate(0, 99), 1);
        due("rate(1, 5) behind the other's fifth line", behind.rate(1, 5), 9);
        due("rate(1, 6) behind the other's fifth line", behind.rate(1, 6), -2);
        String cheaper = "break 10 8 8 8;break 20 7 7 7;break 30 6 6 6;break 40 5 5 5;break 50 4 4 4;";
        Check.read(split, carrier("99 99 9 0 9 0", cheaper) + "order 0 0;");
        due("rate(0, 1) of five lines", split.rate(0, 1), 4);
        for (int lines = 4; lines >= 1; lines--) {
            String fewer = cheaper.substring(0, 15 * lines);
            due("a text with " + lines + " lines", Check.read(split, carrier("99 99 9 0 9 0", fewer) + "order 0 0;"), lines + 3);
            due("rate(0, 1) of " + lines, split.rate(0, 1), 9 - lines);
            due("rate up to the last of " + lines, split.rate(0, 10 * lines), 9 - lines);
            due("rate above the last of " + lines, split.rate(0, 10 * lines + 1), -2);
        }
    }

    // ---- promises 10 to 12

    private void noSuchSets() {
        for (int goods = 0; goods <= 8; goods++) {
            ParcelSplit split = Check.made(FREE + GOOD.repeat(goods) + "order 0 0;");
            int full = (1 << goods) - 1;
            for (int set : new int[] {0, full + 1, 256, 511, -1, -256, LEAST_INT, LEAST_INT + 1, MOST_INT}) {
                check.about(10, "Of a set of GOODS (one at least)");
                due("billed(" + set + ", 0) of " + goods, split.billed(set, 0), -1);
                check.about(11, "Of a set of GOODS (one at least)");
                due("charge(" + set + ", 0) of " + goods, split.charge(set, 0), -1);
                check.about(12, "NONE: no such set.");
                due("cheapest(" + set + ") of " + goods, split.cheapest(set), -1);
            }
            if (goods > 0) {
                check.about(10, "BILLED of a set of GOODS (bits) by a CARRIER.");
                due("billed of all " + goods, split.billed(full, 0), goods);
                due("billed of the last alone", split.billed(1 << goods - 1, 0), 1);
                check.about(11, "CHARGE of a set of GOODS by a CARRIER");
                due("charge of all " + goods, split.charge(full, 0), 0);
                check.about(12, "The CARRIER that has the least CHARGE for a set of GOODS");
                due("cheapest of all " + goods, split.cheapest(full), 0);
                noSuchCarriers(split, 1);
            }
        }
        noSuchCarriers(Check.made(ALL), 3);
    }

    private void noSuchCarriers(ParcelSplit split, int carriers) {
        for (int c : new int[] {carriers, 3, -1, LEAST_INT, MOST_INT}) {
            check.about(10, "NONE: no such ones.");
            due("billed(1, " + c + ")", split.billed(1, c), -1);
            check.about(11, "NONE: no such ones.");
            due("charge(1, " + c + ")", split.charge(1, c), -1);
        }
        due("charge(1, " + (carriers - 1) + ") is there", split.charge(1, carriers - 1) >= 0 ? 1 : 0, 1);
    }

    private void billed() {
        check.about(10, "KILOS, or LITRES by BY, up to a whole number, whichever is more.");
        ParcelSplit split = Check.made("carrier 99 999 10 0 9 0;break 9 1 1 1;zones 0 3 3 3 3;"
            + "good 2 19 1;good 2 20 1;good 2 21 1;good 3 21 1;good 1 9 1;good 1 11 1;good 4 30 1;order 0 0;");
        int[] alone = {2, 2, 3, 3, 1, 2, 4};
        for (int g = 0; g < alone.length; g++) {
            due("billed of good " + g + ", though it does not serve", split.billed(1 << g, 0), alone[g]);
        }
        due("litres are put together first", split.billed(0b110000, 0), 2);
        due("kilos 4, litres 40", split.billed(0b000101, 0), 4);
        due("kilos 4, litres 41", split.billed(0b000110, 0), 5);
        String most = "good 99 999 1;".repeat(8);
        ParcelSplit dear = Check.made("carrier 1 1 1 0 9 0;break 1 1 1 1;zones 0 0 0 0 0;carrier 1 1 99 0 9 0;break 1 1 1 1;"
            + "zones 0 0 0 0 0;" + most + "order 0 0;");
        due("as many litres as can be", dear.billed(255, 0), 7992);
        due("as many kilos as can be", dear.billed(255, 1), 792);
        due("litres by 1", dear.billed(1, 0), 999);
        due("kilos by 99", dear.billed(1, 1), 99);
    }

    private void whyInTurn() {
        check.about(11, "WHY there is none, the first: 1 it does not serve the PLACE; 2 KILOS above MOST; "
            + "3 LITRES above ROOM; 4 BILLED above all UPTO.");
        ParcelSplit split = Check.made("carrier 10 100 10 0 999 0;break 9 7 7 7;zones 0 0 0 0 3;"
            + "good 11 101 1;good 11 1 1;good 10 101 1;good 10 100 1;good 9 90 1;good 9 91 1;order 0 0;");
        int[] why = {-3, -3, -4, -5, 7, -5};
        for (int g = 0; g < why.length; g++) {
            due("charge of good " + g, split.charge(1 << g, 0), why[g]);
        }
        split.order(3, 0);
        for (int g = 0; g < why.length; g++) {
            due("charge of good " + g + " where it does not serve", split.charge(1 << g, 0), -2);
        }
    }

    private void whyAtTheEdges() {
        check.about(11, "-1 less WHY there is none (-2 to -5)");
        ParcelSplit heavy = Check.made("carrier 99 999 99 0 999 0;break 99 7 7 7;zones 0 0 0 0 0;"
            + "good 99 1 1;good 98 1 1;good 1 1 1;order 0 0;");
        due("KILOS 99 by MOST 99", heavy.charge(0b001, 0), 7);
        due("KILOS 98 and 1", heavy.charge(0b110, 0), 7);
        due("KILOS 99 and 1", heavy.charge(0b101, 0), -3);
        ParcelSplit big = Check.made("carrier 99 999 99 0 999 0;break 99 7 7 7;zones 0 0 0 0 0;"
            + "good 1 999 1;good 1 998 1;good 1 1 1;order 0 0;");
        due("LITRES 999 by ROOM 999", big.charge(0b001, 0), 7);
        due("LITRES 998 and 1", big.charge(0b110, 0), 7);
        due("LITRES 999 and 1", big.charge(0b101, 0), -4);
        ParcelSplit low = Check.made("carrier 1 1 1 0 999 0;break 1 7 7 7;zones 0 0 0 0 0;"
            + "good 1 1 1;good 2 1 1;good 1 2 1;order 0 0;");
        due("KILOS 1 by MOST 1, LITRES 1 by ROOM 1", low.charge(0b001, 0), 7);
        due("KILOS 2 by MOST 1", low.charge(0b010, 0), -3);
        due("LITRES 2 by ROOM 1", low.charge(0b100, 0), -4);
        ParcelSplit above = Check.made("carrier 99 999 10 0 999 0;break 20 7 7 7;break 40 3 3 3;zones 0 0 0 0 0;"
            + "good 40 1 1;good 41 1 1;good 1 400 1;good 1 401 1;good 20 1 1;good 21 1 1;order 0 0;");
        int[] want = {3, -5, 3, -5, 3, 3};
        for (int g = 0; g < want.length; g++) {
            due("charge of good " + g + " by its BILLED", above.charge(1 << g, 0), want[g]);
        }
    }

    private void chargeOfLongGoods() {
        check.about(11, "EXTRA for each GOOD of it whose LENGTH is above LONG");
        String goods = "good 1 1 59;good 1 1 60;good 1 1 61;good 1 1 999;good 1 1 1;";
        ParcelSplit split = Check.made("carrier 99 999 99 0 60 7;break 99 10 10 10;zones 0 0 0 0 0;"
            + "carrier 99 999 99 0 999 7;break 99 10 10 10;zones 0 0 0 0 0;"
            + "carrier 99 999 99 0 1 999;break 99 10 10 10;zones 0 0 0 0 0;" + goods + "order 0 0;");
        int[] byFirst = {10, 10, 17, 17, 10};
        int[] byThird = {1009, 1009, 1009, 1009, 10};
        for (int g = 0; g < 5; g++) {
            due("good " + g + " by LONG 60", split.charge(1 << g, 0), byFirst[g]);
            due("good " + g + " by LONG 999", split.charge(1 << g, 1), 10);
            due("good " + g + " by LONG 1", split.charge(1 << g, 2), byThird[g]);
        }
        due("all by LONG 60", split.charge(31, 0), 24);
        due("all by LONG 999", split.charge(31, 1), 10);
        due("all by LONG 1", split.charge(31, 2), 10 + 4 * 999);
        ParcelSplit most = Check.made("carrier 99 999 99 99 1 999;break 99 999 0 0;zones 0 0 1 2 3;" + "good 1 1 2;".repeat(8)
            + "order 0 0;");
        due("as much as a charge can be", most.charge(255, 0), 8991 + 8991 * 99 / 100);
        ParcelSplit none = Check.made("carrier 99 999 99 99 1 0;break 99 0 0 0;zones 0 0 1 2 3;" + "good 1 1 2;".repeat(8) + "order 0 0;");
        due("as little as a charge can be", none.charge(255, 0), 0);
    }

    private void fuelIsCut() {
        check.about(11, "and FUEL of that together by 100, cut, more");
        int[][] want = {{0, 999, 999}, {1, 99, 99}, {1, 100, 101}, {1, 199, 200}, {1, 200, 202}, {99, 1, 1}, {99, 2, 3}, {99, 100, 199},
            {99, 101, 200}, {50, 1, 1}, {50, 2, 3}, {50, 3, 4}, {99, 0, 0}};
        for (int[] w : want) {
            ParcelSplit split = Check.made(carrier("9 9 9 " + w[0] + " 9 0", "break 9 " + w[1] + " 0 0;") + GOOD + "order 0 0;");
            due("FUEL " + w[0] + " of " + w[1], split.charge(1, 0), w[2]);
        }
        ParcelSplit together = Check.made(carrier("9 9 9 10 1 5", "break 9 5 0 0;") + "good 1 1 2;good 1 1 2;order 0 0;");
        due("of rate and extra together", together.charge(1, 0), 11);
        due("of rate and two extras together", together.charge(3, 0), 16);
    }

    private void cheapest() {
        check.about(12, "of like ones the first. -2: none has one.");
        ParcelSplit like = Check.made(carrier("2 9 9 0 9 0", "break 9 4 9 9;") + carrier("3 9 9 0 9 0", "break 9 4 8 9;")
            + carrier("3 9 9 0 9 0", "break 9 4 8 8;") + "good 2 1 1;good 1 1 1;good 1 1 1;order 0 0;");
        due("of three like ones", like.cheapest(1), 0);
        due("of two like ones, the first can't", like.cheapest(3), 1);
        due("none can", like.cheapest(7), -2);
        like.order(1, 0);
        due("of two like ones below the first", like.cheapest(1), 1);
        like.order(2, 0);
        due("the last is the cheapest", like.cheapest(1), 2);
        like.order(3, 0);
        due("none serves", like.cheapest(1), -2);
        due("no such set comes first", like.cheapest(8), -1);
        due("nor the empty one", like.cheapest(0), -1);
    }

    // ---- promises 13 and 14

    private void least() {
        check.about(13, "LEAST (0 without GOODS). -2: there is no SPLIT.");
        due("no goods", Check.made(NO_GOODS).least(), 0);
        due("no goods where none serves", Check.made(NO_GOODS.replace("order 0", "order 3")).least(), 0);
        String one = "carrier 9 9 9 0 9 0;break 9 7 7 7;zones 0 0 0 0 3;";
        due("one good", Check.made(one + "good 9 9 1;order 0 0;").least(), 7);
        due("one good that is free", Check.made(FREE + GOOD + "order 0 0;").least(), 0);
        due("one good that is too heavy", Check.made(one + "good 10 1 1;order 0 0;").least(), -2);
        due("one good where none serves", Check.made(one + GOOD + "order 3 0;").least(), -2);
        due("eight goods in one", Check.made(one + GOOD.repeat(8) + "order 0 0;").least(), 7);
        due("eight goods, each alone", Check.made(ALL).least(), 32);
        due("eight goods, the last too big", Check.made(one + GOOD.repeat(7) + "good 1 10 1;order 0 0;").least(), -2);
        due("eight goods, the first too big", Check.made(one + "good 1 10 1;" + GOOD.repeat(7) + "order 0 0;").least(), -2);
        String dear = "carrier 99 999 99 99 1 999;break 99 999 999 999;zones 0 0 0 0 0;";
        ParcelSplit most = Check.made(dear + "good 99 1 2;".repeat(8) + "order 0 0;");
        due("as much as it can be", most.least(), 8 * (1998 + 1998 * 99 / 100));
        check.about(13, "each PARCEL by one CARRIER that has a CHARGE for it");
        ParcelSplit two = Check.made(carrier("9 9 9 0 9 0", "break 9 7 7 7;") + "carrier 50 9 9 0 9 0;break 99 30 30 30;zones 0 3 0 0 0;"
            + "good 1 1 1;good 50 1 1;order 0 0;");
        due("only one carrier takes the second, and it does not serve", two.least(), -2);
        two.order(1, 0);
        due("where it serves", two.least(), 37);
    }

    private void row(String what, ParcelSplit split, int... want) {
        for (int g = 0; g < want.length; g++) {
            due(what + ", good " + g, 3 * split.split(g, 0) + split.split(g, 1), want[g]);
        }
    }

    private void leastOfLikeOnes() {
        check.about(14, "of all of that the one with the least row: of each GOOD by number 3 times the number of its PARCEL "
            + "(PARCELS numbered from 0 as their first GOODS come) and the CARRIER.");
        row("all free", Check.made(FREE.repeat(3) + GOOD.repeat(8) + "order 0 0;"), 0, 0, 0, 0, 0, 0, 0, 0);
        row("each alone", Check.made(ALL), 0, 3, 6, 9, 12, 15, 18, 21);
        String third = "carrier 1 9 9 0 9 0;break 9 9 9 9;zones 0 0 0 0 0;".repeat(2) + "carrier 1 9 9 0 9 0;break 9 4 4 4;zones 0 0 0 0 0;";
        row("each alone by the third", Check.made(third + GOOD.repeat(8) + "order 0 0;"), 2, 5, 8, 11, 14, 17, 20, 23);
        row("two by the first ahead of one by the second", Check.made("carrier 1 9 9 0 9 0;break 9 2 0 0;zones 0 0 0 0 0;"
            + "carrier 9 9 9 0 9 0;break 9 4 0 0;zones 0 0 0 0 0;" + GOOD.repeat(2) + "order 0 0;"), 0, 3);
        row("the first good with the last", Check.made("carrier 9 9 9 0 9 0;break 9 5 5 5;zones 0 0 0 0 0;"
            + "good 8 1 1;good 8 1 1;good 2 1 1;good 1 1 1;good 1 1 1;order 0 0;"), 0, 3, 6, 0, 3);
        row("one good", Check.made(FREE + GOOD + "order 0 0;"), 0);
    }

    private void chargeAheadOfRow() {
        check.about(14, "LEAST: the least CHARGE of all PARCELS together; the LEAST SPLIT: of all of that the one with the least row");
        ParcelSplit free = Check.made(carrier("9 9 9 0 9 0", "break 1 0 1 2;break 9 1 3 5;") + GOOD.repeat(2) + "order 0 0;");
        int[] least = {0, 2, 4};
        for (int place = 0; place < 3; place++) {
            free.order(place, 0);
            due("each alone is less, at " + place, free.least(), least[place]);
            row("each alone, at " + place, free, 0, 3);
        }
        ParcelSplit third = Check.made(carrier("9 9 9 0 9 0", "break 9 2 2 2;").repeat(2) + carrier("9 9 9 0 9 0", "break 9 1 2 1;")
            + GOOD.repeat(8) + "order 0 0;");
        due("all by the third", third.least(), 1);
        row("all by the third", third, 2, 2, 2, 2, 2, 2, 2, 2);
        third.order(1, 0);
        due("all by any", third.least(), 2);
        row("all by the first", third, 0, 0, 0, 0, 0, 0, 0, 0);
    }

    /** Each of the 64 ways in which three carriers have zones; the prices of all are different. */
    private void splitInAllZones() {
        check.about(14, "the PARCEL (what 0), the CARRIER (1) of a GOOD. -2: there is no SPLIT.");
        int[][] prices = {{5, 9, 1}, {2, 7, 8}, {6, 3, 4}};
        for (int ways = 0; ways < 64; ways++) {
            StringBuilder text = new StringBuilder();
            int cheapest = -2;
            int charge = -2;
            for (int c = 0; c < 3; c++) {
                int zone = ways >> 2 * c & 3;
                text.append("carrier 1 9 9 0 9 0;break 9 ").append(prices[c][0]).append(' ').append(prices[c][1]).append(' ')
                    .append(prices[c][2]).append(";zones 0 ").append((zone + 1) % 4).append(" 3 0 ").append(zone).append(';');
                if (zone < 3 && (charge < 0 || prices[c][zone] < charge)) {
                    cheapest = c;
                    charge = prices[c][zone];
                }
            }
            ParcelSplit split = Check.made(text + GOOD.repeat(2) + "order 3 0;");
            String what = "zones " + (ways & 3) + " " + (ways >> 2 & 3) + " " + (ways >> 4 & 3);
            due("least() of " + what, split.least(), charge < 0 ? -2 : 2 * charge);
            due("split(0, 0) of " + what, split.split(0, 0), charge < 0 ? -2 : 0);
            due("split(0, 1) of " + what, split.split(0, 1), cheapest);
            due("split(1, 0) of " + what, split.split(1, 0), charge < 0 ? -2 : 1);
            due("split(1, 1) of " + what, split.split(1, 1), cheapest);
            due("take() of " + what, split.take(), charge < 0 ? -2 : 2);
        }
    }

    private void split() {
        check.about(14, "The LEAST SPLIT: the PARCEL (what 0), the CARRIER (1) of a GOOD.");
        ParcelSplit all = Check.made(ALL);
        due("split(0, 0)", all.split(0, 0), 0);
        due("split(0, 1)", all.split(0, 1), 0);
        due("split(7, 0)", all.split(7, 0), 7);
        due("split(7, 1)", all.split(7, 1), 0);
        check.about(14, "-2: there is no SPLIT. NONE (first): no such ones.");
        for (int place : new int[] {0, 3}) {
            all.order(place, 0);
            for (int w : new int[] {2, -1, LEAST_INT, MOST_INT}) {
                due("split(0, " + w + ") at " + place, all.split(0, w), -1);
            }
            for (int g : new int[] {8, -1, LEAST_INT, MOST_INT}) {
                due("split(" + g + ", 0) at " + place, all.split(g, 0), -1);
                due("split(" + g + ", 1) at " + place, all.split(g, 1), -1);
                due("split(" + g + ", 2) at " + place, all.split(g, 2), -1);
            }
        }
        for (int g = 0; g < 8; g++) {
            due("split(" + g + ", 0) where there is none", all.split(g, 0), -2);
            due("split(" + g + ", 1) where there is none", all.split(g, 1), -2);
        }
        ParcelSplit none = Check.made(NO_GOODS);
        due("split(0, 0) without goods", none.split(0, 0), -1);
        none.order(3, 0);
        due("split(0, 0) without goods where none serves", none.split(0, 0), -1);
    }

    // ---- promises 15 and 16

    private void bound() {
        check.about(15, "KILOS of all GOODS times the least P by UPTO (a fraction; of all 'break' LINES of CARRIERS that serve "
            + "the PLACE, in their ZONES), up to a whole number.");
        int[][] want = {{6, 1}, {7, 1}, {8, 2}, {13, 2}, {14, 2}, {15, 3}, {1, 1}, {99, 15}};
        for (int[] w : want) {
            ParcelSplit split = Check.made(carrier("1 1 1 99 1 9", "break 7 1 0 999;") + "good " + w[0] + " 999 999;order 0 0;");
            due(w[0] + " kilos by 1 for 7", split.bound(), w[1]);
            split.order(1, 0);
            due(w[0] + " kilos by 0 for 7", split.bound(), 0);
        }
        ParcelSplit most = Check.made(carrier("1 1 1 0 1 0", "break 1 999 998 0;") + "good 99 1 1;".repeat(8) + "order 0 0;");
        due("as much as it can be", most.bound(), 792 * 999);
        ParcelSplit near = Check.made(carrier("1 1 1 0 1 0", "break 98 98 97 97;break 99 98 98 99;") + "good 99 1 1;".repeat(8) + "order 0 0;");
        due("98 by 98 and 98 by 99", near.bound(), 784);
        near.order(1, 0);
        due("97 by 98 and 98 by 99", near.bound(), 784);
        near.order(2, 0);
        due("97 by 98 and 99 by 99", near.bound(), 784);
        ParcelSplit two = Check.made(carrier("9 9 9 0 9 0", "break 9 9 9 9;") + "carrier 9 9 9 0 9 0;break 9 3 5 7;zones 0 0 3 2 3;"
            + "good 9 1 1;order 0 0;");
        int[] byPlace = {3, 9, 7, -2};
        for (int place = 0; place < 4; place++) {
            two.order(place, 0);
            due("bound() at " + place, two.bound(), byPlace[place]);
        }
        check.about(15, "-2: no CARRIER serves the PLACE.");
        ParcelSplit none = Check.made(NO_GOODS);
        due("without goods", none.bound(), 0);
        none.order(3, 0);
        due("without goods, where none serves", none.bound(), -2);
        ParcelSplit noSplit = Check.made(carrier("9 9 9 0 9 0", "break 9 9 9 9;") + "good 10 1 1;order 0 0;");
        due("though there is no split", noSplit.bound(), 10);
    }

    private void boundWithFreeOnes() {
        check.about(15, "the least P by UPTO");
        String one = carrier("9 9 9 0 9 0", "break 5 0 1 2;break 9 3 0 9;") + carrier("9 9 9 0 9 0", "break 9 4 4 0;")
            + carrier("9 9 9 0 9 0", "break 9 5 5 5;");
        ParcelSplit split = Check.made(one + "good 9 1 1;order 0 0;");
        for (int place = 0; place < 3; place++) {
            split.order(place, 0);
            due("one of the lines is free, at " + place, split.bound(), 0);
        }
        ParcelSplit lines = Check.made(carrier("9 9 9 0 9 0", "break 1 1 9 9;break 2 9 1 9;break 3 9 9 1;") + "good 6 1 1;order 0 0;");
        int[] want = {6, 3, 2};
        for (int place = 0; place < 3; place++) {
            lines.order(place, 0);
            due("another line is the least, at " + place, lines.bound(), want[place]);
        }
    }

    private void gap() {
        check.about(16, "GAP: LEAST less BOUND.");
        ParcelSplit even = Check.made(carrier("9 9 9 0 9 0", "break 9 9 8 7;") + "good 9 1 1;order 0 0;");
        due("no gap", even.gap(), 0);
        ParcelSplit one = Check.made(carrier("9 9 9 0 9 0", "break 9 9 8 7;") + "good 8 1 1;order 0 0;");
        due("a gap of 1", one.gap(), 1);
        due("without goods", Check.made(NO_GOODS).gap(), 0);
        due("eight alone", Check.made(ALL).gap(), 32 - 4);
        check.about(16, "NONE: there is no SPLIT, bound() is -2.");
        even.order(3, 0);
        due("none serves", even.gap(), -1);
        ParcelSplit heavy = Check.made(carrier("9 9 9 0 9 0", "break 9 9 8 7;") + "good 10 1 1;order 0 0;");
        due("too heavy", heavy.gap(), -1);
        due("without goods, where none serves", Check.made(NO_GOODS.replace("order 0", "order 3")).gap(), -1);
    }

    // ---- promises 17 to 19

    private void parcel() {
        check.about(17, "Of a PARCEL (0 to 7) of the PLAN 0 its GOODS (bits), 1 its CARRIER, 2 CLAIMED KILOS (NONE: none), "
            + "3 CHARGE by its GOODS (as charge(); 0 without GOODS), 4 CHARGE by CLAIMED KILOS (as 3, if none are).");
        String text = carrier("8 9 9 0 9 0", "break 7 5 0 0;break 9 6 0 0;") + carrier("9 9 9 0 9 0", "break 9 7 0 0;") + GOOD.repeat(8)
            + "order 0 0;";
        ParcelSplit split = Check.made(text);
        int[] empty = {0, 0, -1, 0, 0};
        for (int p = 0; p < 8; p++) {
            for (int w = 0; w < 5; w++) {
                due("parcel(" + p + ", " + w + ") without goods", split.parcel(p, w), empty[w]);
            }
        }
        for (int p : new int[] {0, 7}) {
            for (int g = 0; g < 8; g++) {
                split.put(g, p);
            }
            int[] full = {255, 0, -1, 6, 6};
            for (int w = 0; w < 5; w++) {
                due("parcel(" + p + ", " + w + ") with all goods", split.parcel(p, w), full[w]);
                due("parcel(" + (7 - p) + ", " + w + ") with none", split.parcel(7 - p, w), empty[w]);
            }
        }
        split.order(3, 99);
        due("without goods where none serves, 3", split.parcel(0, 3), 0);
        due("without goods where none serves, 4", split.parcel(0, 4), 0);
        due("with goods where none serves, 3", split.parcel(7, 3), -2);
        due("with goods where none serves, 4", split.parcel(7, 4), -2);
        check.about(17, "NONE - 99: no such ones.");
        for (int w : new int[] {5, -1, LEAST_INT, MOST_INT}) {
            due("parcel(0, " + w + ")", split.parcel(0, w), -100);
            due("parcel(7, " + w + ")", split.parcel(7, w), -100);
        }
        for (int p : new int[] {8, -1, LEAST_INT, MOST_INT}) {
            for (int w = -1; w < 6; w++) {
                due("parcel(" + p + ", " + w + ")", split.parcel(p, w), -100);
            }
        }
    }

    private void parcelByClaim() {
        check.about(17, "its CHARGE then: as told, but by these KILOS in place of those of its GOODS (WHY, too).");
        ParcelSplit split = Check.made("carrier 20 50 10 50 10 4;break 4 10 0 0;break 15 20 0 0;zones 0 0 1 2 3;"
            + "good 3 39 11;good 1 12 1;good 21 1 1;good 1 49 1;good 16 1 1;order 0 0;");
        split.put(0, 0);
        int[][] light = {{1, 21}, {4, 21}, {5, 36}, {15, 36}, {16, -5}, {20, -5}, {21, -3}, {99, -3}};
        for (int[] w : light) {
            split.claim(0, w[0]);
            due("2 by a claim of " + w[0], split.parcel(0, 2), w[0]);
            due("3 by a claim of " + w[0], split.parcel(0, 3), 21);
            due("4 by a claim of " + w[0], split.parcel(0, 4), w[1]);
        }
        split.claim(0, 0);
        due("2 by no claim", split.parcel(0, 2), -1);
        due("4 by no claim", split.parcel(0, 4), 21);
        split.put(1, 0);
        split.claim(0, 1);
        due("litres above ROOM, by goods", split.parcel(0, 3), -4);
        due("litres above ROOM, by a claim", split.parcel(0, 4), -4);
        split.claim(0, 21);
        due("claimed above MOST comes first", split.parcel(0, 4), -3);
        split.put(2, 1);
        due("too heavy by goods", split.parcel(1, 3), -3);
        due("too heavy, not claimed", split.parcel(1, 4), -3);
        split.claim(1, 15);
        due("too heavy by goods still", split.parcel(1, 3), -3);
        due("not too heavy by a claim", split.parcel(1, 4), 30);
        split.put(3, 2);
        split.claim(2, 1);
        due("by its litres still", split.parcel(2, 4), 30);
        split.put(4, 3);
        due("billed above all UPTO by goods", split.parcel(3, 3), -5);
        split.claim(3, 4);
        due("not so by a claim", split.parcel(3, 4), 15);
        split.order(3, 0);
        due("not served comes first", split.parcel(0, 4), -2);
    }

    private void total() {
        check.about(18, "CHARGE of all PARCELS with GOODS together (what 0 by GOODS, 1 by CLAIMED KILOS). -2: one has none.");
        ParcelSplit split = Check.made("carrier 2 9 9 0 9 0;break 1 4 4 4;break 9 5 5 5;zones 0 0 1 2 3;" + GOOD.repeat(8) + "order 0 0;");
        due("no parcel by goods", split.total(0), 0);
        due("no parcel by claims", split.total(1), 0);
        split.order(3, 0);
        due("no parcel where none serves, by goods", split.total(0), 0);
        due("no parcel where none serves, by claims", split.total(1), 0);
        split.order(0, 0);
        for (int g = 0; g < 8; g++) {
            split.put(g, 7 - g);
            due("by goods of " + (g + 1), split.total(0), 4 * (g + 1));
            due("by claims of " + (g + 1), split.total(1), 4 * (g + 1));
        }
        for (int p : new int[] {0, 7}) {
            split.claim(p, 2);
            due("by goods, claimed 2 in " + p, split.total(0), 32);
            due("by claims, claimed 2 in " + p, split.total(1), 33);
            split.claim(p, 3);
            due("by goods, claimed 3 in " + p, split.total(0), 32);
            due("by claims, claimed 3 in " + p, split.total(1), -2);
            split.claim(p, 0);
        }
        split.put(0, 0);
        due("two in one by goods", split.total(0), 6 * 4 + 5);
        split.put(1, 0);
        due("three in one by goods", split.total(0), -2);
        due("three in one by claims", split.total(1), -2);
        split.claim(0, 1);
        due("three in one by goods still", split.total(0), -2);
        due("three in one, claimed 1", split.total(1), 24);
        split.order(3, 0);
        due("none serves by goods", split.total(0), -2);
        due("none serves by claims", split.total(1), -2);
        check.about(18, "NONE: another what.");
        for (int w : new int[] {2, -1, 3, LEAST_INT, MOST_INT}) {
            due("total(" + w + ")", split.total(w), -1);
        }
    }

    private void would() {
        check.about(19, "LEAST, were the order to another PLACE (0 to 3) or on another DAY (0 to 99). -2: there is no SPLIT.");
        ParcelSplit split = Check.made("carrier 9 9 9 0 9 0;break 9 1 2 3;zones 0 0 1 2 3;zones 1 3 2 1 0;zones 99 1 1 3 1;"
            + GOOD + "order 0 0;");
        int[] days = {0, 1, 98, 99};
        int[][] want = {{1, 2, 3, -2}, {-2, 3, 2, 1}, {-2, 3, 2, 1}, {2, 2, -2, 2}};
        for (int i = 0; i < days.length; i++) {
            for (int place = 0; place < 4; place++) {
                due("would(" + place + ", " + days[i] + ")", split.would(place, days[i]), want[i][place]);
            }
        }
        due("PLACE stays", split.now(2), 0);
        due("DAY stays", split.now(3), 0);
        due("least() stays", split.least(), 1);
        check.about(19, "NONE: no such ones.");
        for (int place : new int[] {4, -1, LEAST_INT, MOST_INT}) {
            due("would(" + place + ", 0)", split.would(place, 0), -1);
            due("would(" + place + ", 99)", split.would(place, 99), -1);
        }
        for (int day : new int[] {100, -1, LEAST_INT, MOST_INT}) {
            due("would(0, " + day + ")", split.would(0, day), -1);
            due("would(3, " + day + ")", split.would(3, day), -1);
        }
        ParcelSplit none = Check.made(NO_GOODS);
        due("without goods, where none serves", none.would(3, 99), 0);
        due("without goods, no such place", none.would(4, 99), -1);
        due("without goods, no such day", none.would(0, 100), -1);
    }

    /** The first carrier is the cheaper up to day 49, then the second; from day 70 on none serves place 1. */
    private void dayOfANewEdition() {
        ParcelSplit split = Check.made("carrier 9 9 9 0 9 0;break 9 2 6 8;zones 0 0 0 0 0;zones 50 2 1 1 1;zones 70 1 3 1 1;"
            + "carrier 9 9 9 0 9 0;break 9 3 5 7;zones 0 0 1 1 1;zones 50 0 1 2 0;zones 70 0 3 0 0;good 9 1 1;order 1 49;");
        split.put(0, 0);
        int[] days = {0, 49, 50, 69, 70, 99};
        int[][] want = {{2, 0, 2}, {2, 0, 2}, {5, 1, 6}, {5, 1, 6}, {-2, -2, -2}, {-2, -2, -2}};
        for (int i = 0; i < days.length; i++) {
            split.order(1, days[i]);
            int least = want[i][0];
            check.about(9, "its last 'zones' LINE whose FROM is not above the order's DAY");
            due("rate(0, 9) on " + days[i], split.rate(0, 9), want[i][2]);
            check.about(11, "its last 'zones' LINE whose FROM is not above the order's DAY");
            due("charge(1, 0) on " + days[i], split.charge(1, 0), want[i][2]);
            check.about(12, "its last 'zones' LINE whose FROM is not above the order's DAY");
            due("cheapest(1) on " + days[i], split.cheapest(1), want[i][1]);
            check.about(13, "its last 'zones' LINE whose FROM is not above the order's DAY");
            due("least() on " + days[i], split.least(), least);
            check.about(14, "its last 'zones' LINE whose FROM is not above the order's DAY");
            due("split(0, 0) on " + days[i], split.split(0, 0), least < 0 ? -2 : 0);
            due("split(0, 1) on " + days[i], split.split(0, 1), want[i][1]);
            check.about(15, "its last 'zones' LINE whose FROM is not above the order's DAY");
            due("bound() on " + days[i], split.bound(), least);
            check.about(16, "its last 'zones' LINE whose FROM is not above the order's DAY");
            due("gap() on " + days[i], split.gap(), least < 0 ? -1 : 0);
            check.about(17, "its last 'zones' LINE whose FROM is not above the order's DAY");
            due("parcel(0, 3) on " + days[i], split.parcel(0, 3), want[i][2]);
            due("parcel(0, 4) on " + days[i], split.parcel(0, 4), want[i][2]);
            check.about(18, "its last 'zones' LINE whose FROM is not above the order's DAY");
            due("total(0) on " + days[i], split.total(0), want[i][2]);
            check.about(19, "its last 'zones' LINE whose FROM is not above the order's DAY");
            due("would(1, " + days[i] + ")", split.would(1, days[i]), least);
            check.about(22, "its last 'zones' LINE whose FROM is not above the order's DAY");
            due("take() on " + days[i], split.take(), least < 0 ? -2 : 1);
            due("its carrier on " + days[i], split.parcel(0, 1), least < 0 ? 0 : want[i][1]);
            split.by(0, 0);
        }
    }

    private void moreCalls() {
        check.about(25, "An object is used for at most 512 calls after it has been made");
        ParcelSplit split = new ParcelSplit();
        for (int i = 0; i < 500; i++) {
            split.order(i % 4, i % 100);
        }
        for (int i = 9; i >= 0; i--) {
            due("undo behind 500 acts", split.undo(), i);
        }
        due("the 511th call", split.now(3), 489 % 100);
        due("the 512th call", split.undo(), -1);
    }
}
