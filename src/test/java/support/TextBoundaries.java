/** The boundary cases of promises 1 to 5: a new object, the tape, what a text may hold, its faults. */
final class TextBoundaries {
    private static final String CARRIER = Texts.CARRIER;
    private static final String BREAK = Texts.BREAK;
    private static final String ZONES = Texts.ZONES;
    private static final String ONE = Texts.ONE;
    private static final String GOOD = Texts.GOOD;
    private static final String ORDER = Texts.ORDER;
    private static final String BLANKS = " ".repeat(20);
    /** As many lines as a text can have, in few bytes. */
    private static final String FULL = (CARRIER + Texts.breaks(5) + Texts.zones(3)).repeat(3) + GOOD.repeat(8) + ORDER;

    private final Check check;
    private final Texts texts;

    TextBoundaries(Check check) {
        this.check = check;
        texts = new Texts(check);
    }

    void run() {
        newObject();
        newObjectWithoutGoods();
        feedUpTo740();
        feedOrderOfBytes();
        end();
        endCutsBytes();
        textTakesTheTape();
        linesOfAText();
        faultOfTheLatest();
        blanks();
        words();
        numbers();
        signs();
        ranges();
        extremesAreRead();
        rising();
        partsThatMustCome();
        oneMoreThanTold();
        firstAlongTheText();
        firstInTheList();
        endOfTheText();
        sevenHundredBytes();
        tokensAcrossTheEnd();
    }

    private void due(String what, long got, long want) {
        check.due(what, got, want);
    }

    // ---- promise 1

    private void newObject() {
        check.about(1, "One CARRIER (MOST 99, ROOM 999, BY 99, FUEL 0, LONG 999, EXTRA 0, one 'break' 99 0 0 0, "
            + "one 'zones' 0 0 0 0 0), no GOODS, order 0 0; an empty tape.");
        ParcelSplit split = new ParcelSplit();
        int[] now = {1, 0, 0, 0, 0, 0, 0, 0, -1};
        for (int w = 0; w < now.length; w++) {
            due("now(" + w + ")", split.now(w), now[w]);
        }
        due("zone(0)", split.zone(0), 0);
        due("zone(1)", split.zone(1), -1);
        due("rate(0, 1)", split.rate(0, 1), 0);
        due("rate(0, 99)", split.rate(0, 99), 0);
        due("rate(0, 100)", split.rate(0, 100), -2);
        due("rate(1, 1)", split.rate(1, 1), -1);
        for (int place = 0; place < 4; place++) {
            for (int day = 0; day < 100; day += 99) {
                split.order(place, day);
                due("zone at " + place + " on " + day, split.zone(0), 0);
                due("rate at " + place + " on " + day, split.rate(0, 99), 0);
            }
        }
        for (int p = 0; p < 8; p++) {
            due("goods of parcel " + p, split.parcel(p, 0), 0);
            due("carrier of parcel " + p, split.parcel(p, 1), 0);
            due("claim of parcel " + p, split.parcel(p, 2), -1);
        }
    }

    private void newObjectWithoutGoods() {
        check.about(1, "no GOODS");
        ParcelSplit split = new ParcelSplit();
        due("good(0, 0)", Check.good(split, 0, 0), Check.THROWS);
        due("good(0, 3)", Check.good(split, 0, 3), Check.THROWS);
        due("billed(1, 0)", split.billed(1, 0), -1);
        due("charge(1, 0)", split.charge(1, 0), -1);
        due("cheapest(1)", split.cheapest(1), -1);
        due("least()", split.least(), 0);
        due("split(0, 0)", split.split(0, 0), -1);
        due("bound()", split.bound(), 0);
        due("gap()", split.gap(), 0);
        due("total(0)", split.total(0), 0);
        due("total(1)", split.total(1), 0);
        due("put(0, 0)", split.put(0, 0), -3);
        due("put(0, -1)", split.put(0, -1), -3);
        due("by(0, 1)", split.by(0, 1), -1);
        due("claim(0, 1)", split.claim(0, 1), -1);
        due("undo()", split.undo(), -1);
        due("fault()", split.fault(), 0);
        check.about(1, "an empty tape");
        check.due("end(1)", split.end(1), false);
        check.due("end(0)", split.end(0), true);
        due("text()", split.text(), -1);
        due("now(0) stays", split.now(0), 1);
        due("rate(0, 99) stays", split.rate(0, 99), 0);
    }

    // ---- promise 2

    private void feedUpTo740() {
        check.about(2, "how many it has; NONE, and none come, if it would have more than 740.");
        ParcelSplit split = new ParcelSplit();
        for (int i = 1; i <= 37; i++) {
            due("feed " + i, split.feed(i, i, i, i, i), 20 * i);
        }
        due("feed 38", split.feed(1, 2, 3, 4, 5), -1);
        due("now(7)", split.now(7), 740);
        for (int n = 739; n > 720; n--) {
            split.end(n);
            due("feed of " + n, split.feed(1, 2, 3, 4, 5), -1);
            due("now(7) of " + n, split.now(7), n);
        }
        split.end(720);
        due("feed of 720", split.feed(1, 2, 3, 4, 5), 740);
        split.end(719);
        due("feed of 719", split.feed(1, 2, 3, 4, 5), 739);
        split.end(1);
        due("feed of 1", split.feed(1, 2, 3, 4, 5), 21);
        split.end(0);
        due("feed of 0", split.feed(1, 2, 3, 4, 5), 20);
        check.about(2, "none come");
        ParcelSplit near = new ParcelSplit();
        Check.lay(near, Texts.filled(ONE + ORDER, 740));
        near.end(721);
        due("feed that is refused", Check.feed(near, "x".repeat(20)), -1);
        near.end(700);
        due("text ahead of it", near.text(), 4);
    }

    private void feedOrderOfBytes() {
        check.about(2, "Twenty bytes come behind the tape, of each number the highest first");
        ParcelSplit split = new ParcelSplit();
        for (int k = 0; k < 20; k++) {
            StringBuilder bytes = new StringBuilder(BLANKS);
            bytes.setCharAt(k, (char) 255);
            due("feed", Check.feed(split, bytes.toString()), 20);
            due("a wrong byte at " + k, split.text(), -1 - k);
        }
        due("the highest byte of each number", split.feed(0x20202020, 0x20202020, 0x61202020, 0x20202020, 0x20202020), 20);
        due("is its first", split.text(), -9);
        due("the least numbers", split.feed(Integer.MIN_VALUE, Integer.MIN_VALUE, -1, -1, Integer.MAX_VALUE), 20);
        due("are no tokens", split.text(), -1);
        Check.feed(split, BLANKS);
        split.end(7);
        due("bytes come behind 7", Check.feed(split, "\nx" + BLANKS), 27);
        due("the second of them is at 8", split.text(), -9);
    }

    // ---- promise 3

    private void end() {
        check.about(3, "The tape has its first n bytes alone: true; false, if it has not so many, or n is below 0.");
        ParcelSplit split = new ParcelSplit();
        int[] wrongOfNone = {1, -1, 20, 740, 741, Integer.MAX_VALUE, Integer.MIN_VALUE};
        for (int n : wrongOfNone) {
            check.due("end(" + n + ") of no byte", split.end(n), false);
            due("now(7)", split.now(7), 0);
        }
        check.due("end(0) of no byte", split.end(0), true);
        Check.lay(split, " ".repeat(740));
        int[] wrongOf740 = {741, -1, 760, Integer.MAX_VALUE, Integer.MIN_VALUE, -740};
        for (int n : wrongOf740) {
            check.due("end(" + n + ") of 740", split.end(n), false);
            due("now(7)", split.now(7), 740);
        }
        int[] falling = {740, 739, 701, 700, 21, 20, 1, 0};
        for (int n : falling) {
            check.due("end(" + n + ")", split.end(n), true);
            due("now(7)", split.now(7), n);
            check.due("end of one more than " + n, split.end(n + 1), false);
            due("now(7) still", split.now(7), n);
            check.due("end(" + n + ") again", split.end(n), true);
        }
    }

    private void endCutsBytes() {
        check.about(3, "its first n bytes alone");
        String text = ONE + ORDER;
        ParcelSplit split = new ParcelSplit();
        Check.lay(split, text + "x");
        split.end(text.length());
        due("what is cut is not read", split.text(), 4);
        Check.lay(split, text);
        split.end(text.length() - 1);
        due("the last sign is cut", split.text(), -text.length());
        Check.lay(split, text);
        split.end(0);
        due("all is cut", split.text(), -1);
        Check.lay(split, text + "x".repeat(20));
        split.end(text.length());
        Check.feed(split, BLANKS);
        due("other bytes come where some were cut", split.text(), 4);
        Check.lay(split, text);
        split.end(-1);
        split.end(text.length() + 1);
        due("a refused end cuts nothing", split.text(), 4);
    }

    // ---- promises 4 and 5

    private void textTakesTheTape() {
        check.about(4, "The tape (empty then, even with a FAULT) is a TEXT");
        ParcelSplit split = new ParcelSplit();
        due("text() of no byte", split.text(), -1);
        due("fault()", split.fault(), 1);
        due("text() of no byte again", split.text(), -1);
        due("a right text", Check.read(split, ONE + ORDER), 4);
        due("now(7) behind it", split.now(7), 0);
        due("it is read once", split.text(), -1);
        due("a wrong text", Check.read(split, Texts.filled(ONE, 740)), -701);
        due("now(7) behind it", split.now(7), 0);
        check.due("end(1) behind it", split.end(1), false);
        due("feed behind it", Check.feed(split, BLANKS), 20);
        due("nothing of it is left", split.text(), -21);
    }

    private void linesOfAText() {
        check.about(4, "how many LINES (each behind its ;)");
        texts.reads(ONE + ORDER, 4);
        texts.reads(FULL, 36);
        texts.reads(Texts.filled(FULL, 700), 36);
        due("the full text's bytes", FULL.length() <= 700 ? 1 : 0, 1);
        ParcelSplit split = Check.made(FULL);
        due("CARRIERS", split.now(0), 3);
        due("GOODS", split.now(1), 8);
        check.about(4, "-1 less the place of a FAULT");
        texts.fails("x" + FULL, 0, 1);
        texts.fails(FULL.substring(0, FULL.length() - 1), FULL.length() - 1, 1);
        texts.fails(Texts.filled(FULL, 699) + "x", 699, 1);
    }

    private void faultOfTheLatest() {
        check.about(5, "The kind of the FAULT of the latest text(); 0 without one and ahead of any.");
        ParcelSplit split = new ParcelSplit();
        due("fault() ahead of any", split.fault(), 0);
        Check.lay(split, "x");
        due("fault() of what is not read yet", split.fault(), 0);
        split.text();
        due("fault() of no token", split.fault(), 1);
        Check.read(split, "carrier 0");
        due("fault() of a wrong number", split.fault(), 2);
        Check.lay(split, ONE + ORDER);
        split.order(9, 9);
        split.order(3, 3);
        split.undo();
        due("fault() ahead of the next text()", split.fault(), 2);
        split.text();
        due("fault() of a right text", split.fault(), 0);
        Check.read(split, ONE.repeat(3) + "carrier");
        due("fault() of one carrier more", split.fault(), 3);
        split.text();
        due("fault() of no byte", split.fault(), 1);
    }

    // ---- tokens

    private void blanks() {
        check.about(4, "TOKENS of a text, with blanks (32, 10) between them or not");
        texts.reads(ONE + ORDER);
        texts.reads(" \n" + (ONE + ORDER).replace(" ", "\n\n").replace(";", " ; ") + "\n ");
        for (int sign : new int[] {0, 1, 9, 11, 13, 31, 33, 127, 128, 138, 160, 255}) {
            String other = "#" + (char) sign;
            texts.failsAtMark(other + ONE + ORDER, 1);
            texts.failsAtMark("carrier" + other + "9 9 9 0 9 0;", 1);
            texts.failsAtMark("carrier 9" + other + " 9 9 0 9 0;", 1);
            texts.failsAtMark(CARRIER + other + BREAK, 1);
            texts.failsAtMark(ONE + ORDER + other, 1);
        }
        check.about(4, "A WORD, NUMBER goes on as long as small letters and digits do");
        for (String more : new String[] {"a", "z", "0", "9", "s1", "1s"}) {
            texts.failsAtMark("#carrier" + more + " 9 9 9 0 9 0;", 1);
            texts.failsAtMark(ONE + "#order" + more + " 1 2;", 1);
        }
        for (String more : new String[] {"a", "z", "order", "a1"}) {
            texts.failsAtMark("carrier #9" + more + " 9 9 0 9 0;", 1);
            texts.failsAtMark(ONE + "order 1 #2" + more + ";", 1);
        }
    }

    private void words() {
        check.about(4, "WORDS: small letters");
        for (int sign : new int[] {'`', '{', '@', '[', 'A', 'Z', 'E', 'a' + 128, 'z' + 128}) {
            texts.failsAtMark("carrier#" + (char) sign + " 9 9 9 0 9 0;", 1);
            texts.failsAtMark(ONE + ORDER + "#" + (char) sign, 1);
        }
        String[] right = {"carrier", "break", "zones", "good", "order"};
        String[] ahead = {"", CARRIER, CARRIER + BREAK, ONE, ONE};
        String[] numbers = {" 9 9 9 0 9 0;", " 5 0 0 0;", " 0 0 0 0 0;", " 1 1 1;", " 1 2;"};
        for (int w = 0; w < right.length; w++) {
            String behind = numbers[w];
            for (int i = 0; i < right[w].length(); i++) {
                StringBuilder other = new StringBuilder(right[w]);
                other.setCharAt(i, right[w].charAt(i) == 'x' ? 'y' : 'x');
                texts.failsAtMark(ahead[w] + "#" + other + behind, 1);
            }
            texts.failsAtMark(ahead[w] + "#" + right[w].substring(1) + behind, 1);
            texts.failsAtMark(ahead[w] + "#" + right[w].substring(0, right[w].length() - 1) + behind, 1);
            texts.failsAtMark(ahead[w] + "#" + right[w] + "s" + behind, 1);
        }
        texts.fails("c".repeat(740), 0, 1);
    }

    private void numbers() {
        check.about(4, "NUMBERS: 1 to 3 digits");
        texts.reads(ONE + "order 0 0;");
        texts.reads(ONE + "order 00 00;");
        texts.reads(ONE + "order 003 099;");
        texts.reads(ONE + "good 1 999 999;" + ORDER);
        texts.failsAtMark(ONE + "order #0000 0;", 1);
        texts.failsAtMark(ONE + "order 0 #0001;", 1);
        texts.failsAtMark(ONE + "good 1 #1000 1;", 1);
        for (String number : new String[] {"4294967297", "18446744073709551617", "1".repeat(600)}) {
            texts.failsAtMark(ONE + "order #" + number + " 0;", 1);
        }
        for (int sign : new int[] {'/', ':', '-', '+', '.', ',', '0' + 128, '9' + 128, 178}) {
            texts.failsAtMark(ONE + "order 1#" + (char) sign + " 2;", 1);
            texts.failsAtMark(ONE + "order #" + (char) sign + "1 2;", 1);
        }
        ParcelSplit split = Check.made(ONE + "good 007 010 099;order 003 08;");
        due("KILOS of 007", Check.good(split, 0, 0), 7);
        due("LITRES of 010", Check.good(split, 0, 1), 10);
        due("LENGTH of 099", Check.good(split, 0, 2), 99);
        due("DAY of 08", split.now(3), 8);
    }

    private void signs() {
        check.about(4, "the sign ;");
        for (int sign : new int[] {':', '<', ';' + 128, ',', '.'}) {
            texts.failsAtMark(ONE + "order 1 2#" + (char) sign, 1);
        }
        texts.failsAtMark("#;", 1);
        texts.failsAtMark(ONE + ORDER + "#;", 1);
        texts.failsAtMark(CARRIER + "#;" + BREAK, 1);
    }

    // ---- the ranges of numbers

    /** Each number of a line at its lowest and highest, and one below and above them. */
    private void range(String ahead, String line, int which, int lowest, int highest, String behind) {
        String[] parts = line.split(" ");
        for (int n : new int[] {lowest - 1, lowest, highest, highest + 1}) {
            if (n < 0) {
                continue;
            }
            parts[which + 1] = "#" + n;
            String text = ahead + String.join(" ", parts) + ";" + behind;
            if (n >= lowest && n <= highest) {
                texts.reads(text.replace("#", ""));
            } else {
                texts.failsAtMark(text, n > 999 ? 1 : 2);
            }
        }
    }

    private void ranges() {
        check.about(4, "MOST 1 to 99, ROOM 1 to 999, BY 1 to 99, FUEL 0 to 99, LONG 1 to 999, EXTRA 0 to 999");
        int[] lowest = {1, 1, 1, 0, 1, 0};
        int[] highest = {99, 999, 99, 99, 999, 999};
        for (int i = 0; i < 6; i++) {
            range("", "carrier 9 9 9 9 9 9", i, lowest[i], highest[i], BREAK + ZONES + ORDER);
            range(ONE + ONE, "carrier 9 9 9 9 9 9", i, lowest[i], highest[i], BREAK + ZONES + ORDER);
        }
        check.about(4, "UPTO 1 to 99, above the one ahead (of the CARRIER), P 0 to 999 (of ZONES 0, 1, 2)");
        for (int i = 0; i < 4; i++) {
            range(CARRIER, "break 9 0 0 0", i, i == 0 ? 1 : 0, i == 0 ? 99 : 999, ZONES + ORDER);
            range(CARRIER + BREAK, "break 9 0 0 0", i, i == 0 ? 6 : 0, i == 0 ? 99 : 999, ZONES + ORDER);
        }
        check.about(4, "FROM 0 to 99, above the one ahead, the first 0, Z 0 to 3 (of PLACES 0 to 3; 3: not served)");
        for (int i = 0; i < 5; i++) {
            range(CARRIER + BREAK, "zones 0 0 0 0 0", i, 0, i == 0 ? 0 : 3, ORDER);
            range(ONE, "zones 9 0 0 0 0", i, i == 0 ? 1 : 0, i == 0 ? 99 : 3, ORDER);
        }
        check.about(4, "KILOS 1 to 99, LITRES 1 to 999, LENGTH 1 to 999, PLACE 0 to 3, DAY 0 to 99.");
        for (int i = 0; i < 3; i++) {
            range(ONE, "good 1 1 1", i, 1, i == 0 ? 99 : 999, ORDER);
            range(ONE + GOOD.repeat(7), "good 1 1 1", i, 1, i == 0 ? 99 : 999, ORDER);
        }
        range(ONE, "order 0 0", 0, 0, 3, "");
        range(ONE, "order 0 0", 1, 0, 99, "");
    }

    private void extremesAreRead() {
        check.about(4, "{ 'good' KILOS LITRES LENGTH ; } 'order' PLACE DAY ;");
        ParcelSplit most = Check.made("carrier 99 999 99 99 999 999;break 99 999 998 997;zones 0 0 1 2 0;zones 99 2 1 0 3;"
            + "good 99 999 999;order 3 99;");
        int[] good = {99, 999, 999, -1};
        for (int w = 0; w < 4; w++) {
            due("good(0, " + w + ") of the highest", Check.good(most, 0, w), good[w]);
        }
        due("PLACE", most.now(2), 3);
        due("DAY", most.now(3), 99);
        due("zone(0)", most.zone(0), 3);
        due("billed(1, 0)", most.billed(1, 0), 99);
        due("charge(1, 0) where it does not serve", most.charge(1, 0), -2);
        int[] charges = {997 + 997 * 99 / 100, 998 + 998 * 99 / 100, 999 + 999 * 99 / 100};
        for (int place = 0; place < 3; place++) {
            most.order(place, 99);
            due("charge(1, 0) at " + place, most.charge(1, 0), charges[place]);
        }
        ParcelSplit least = Check.made("carrier 1 1 1 0 1 0;break 1 0 0 0;zones 0 0 0 0 0;good 1 1 1;order 0 0;");
        int[] one = {1, 1, 1, -1};
        for (int w = 0; w < 4; w++) {
            due("good(0, " + w + ") of the lowest", Check.good(least, 0, w), one[w]);
        }
        due("billed(1, 0) of the lowest", least.billed(1, 0), 1);
        due("charge(1, 0) of the lowest", least.charge(1, 0), 0);
        due("rate(0, 2) of the lowest", least.rate(0, 2), -2);
    }

    private void rising() {
        check.about(4, "above the one ahead (of the CARRIER)");
        texts.failsAtMark(CARRIER + BREAK + "break #5 1 1 1;", 2);
        texts.failsAtMark(CARRIER + BREAK + "break #4 1 1 1;", 2);
        texts.reads(CARRIER + BREAK + "break 6 1 1 1;" + ZONES + ORDER);
        texts.reads(CARRIER + "break 98 1 1 1;break 99 1 1 1;" + ZONES + ORDER);
        texts.failsAtMark(CARRIER + "break 99 1 1 1;break #99 1 1 1;", 2);
        texts.failsAtMark(CARRIER + "break 99 1 1 1;break #100 1 1 1;", 2);
        texts.failsAtMark(CARRIER + "break 1 1 1 1;break 7 1 1 1;break #6 1 1 1;", 2);
        texts.reads(CARRIER + Texts.breaks(5) + ZONES + CARRIER + Texts.breaks(5) + ZONES + ORDER);
        texts.reads(CARRIER + "break 99 1 1 1;" + ZONES + CARRIER + "break 1 1 1 1;" + ZONES + ORDER);
        check.about(4, "FROM 0 to 99, above the one ahead, the first 0");
        texts.failsAtMark(CARRIER + BREAK + "zones #1 0 0 0 0;", 2);
        texts.failsAtMark(CARRIER + BREAK + "zones #99 0 0 0 0;", 2);
        texts.failsAtMark(ONE + "zones #0 0 0 0 0;", 2);
        texts.reads(ONE + "zones 1 0 0 0 0;zones 2 0 0 0 0;" + ORDER);
        texts.reads(ONE + "zones 98 0 0 0 0;zones 99 0 0 0 0;" + ORDER);
        texts.failsAtMark(ONE + "zones 99 0 0 0 0;zones #99 0 0 0 0;", 2);
        texts.failsAtMark(ONE + "zones 7 0 0 0 0;zones #7 0 0 0 0;", 2);
        texts.failsAtMark(ONE + "zones 7 0 0 0 0;zones #6 0 0 0 0;", 2);
        texts.failsAtMark(ONE + "zones 5 0 0 0 0;" + CARRIER + BREAK + "zones #6 0 0 0 0;", 2);
        texts.reads(ONE + "zones 99 0 0 0 0;" + ONE + "zones 1 0 0 0 0;" + ORDER);
    }

    // ---- lines: those that must come, and one more than told

    private void partsThatMustCome() {
        check.about(4, "CARRIER { CARRIER } { 'good' KILOS LITRES LENGTH ; } 'order' PLACE DAY ;");
        texts.failsAtMark("#order 0 0;", 1);
        texts.failsAtMark("#good 1 1 1;order 0 0;", 1);
        texts.failsAtMark("#break 5 1 2 3;", 1);
        texts.failsAtMark("#zones 0 0 0 0 0;", 1);
        texts.reads(ONE + ORDER);
        texts.reads(ONE + GOOD + ORDER);
        texts.failsAtMark(ONE + "#", 1);
        texts.failsAtMark(ONE + GOOD + "#", 1);
        texts.failsAtMark(ONE + GOOD + "#" + ONE + ORDER, 1);
        for (String more : new String[] {"carrier", "break", "zones", "good", "order", ";", "1", "x"}) {
            texts.failsAtMark(ONE + ORDER + "#" + more, 1);
        }
        check.about(4, "CARRIER: 'carrier' MOST ROOM BY FUEL LONG EXTRA ; 'break' UPTO P P P ; { 'break' .. } "
            + "'zones' FROM Z Z Z Z ; { 'zones' .. }");
        for (String other : new String[] {"carrier", "zones", "good", "order", ";", "1"}) {
            texts.failsAtMark(CARRIER + "#" + other, 1);
        }
        for (String other : new String[] {"carrier", "good", "order", ";", "1"}) {
            texts.failsAtMark(CARRIER + BREAK + "#" + other, 1);
        }
        for (String other : new String[] {"break", ";", "1"}) {
            texts.failsAtMark(ONE + "#" + other, 1);
        }
        numbersOfALine("", CARRIER);
        numbersOfALine(CARRIER, BREAK);
        numbersOfALine(CARRIER + BREAK, ZONES);
        numbersOfALine(ONE, GOOD);
        numbersOfALine(ONE, ORDER);
    }

    /** Ahead of each token of a line something else comes, behind each the text ends; and one number more. */
    private void numbersOfALine(String ahead, String line) {
        String[] parts = line.replace(";", "").split(" ");
        String begun = ahead;
        for (int i = 0; i < parts.length; i++) {
            texts.failsAtMark(begun + "#;", 1);
            texts.failsAtMark(begun + "#x", 1);
            begun = begun + parts[i] + " ";
            texts.failsAtMark(begun + "#", 1);
        }
        texts.failsAtMark(begun + "#0;", 1);
        texts.failsAtMark(begun + "#1000;", 1);
        texts.failsAtMark(begun + "#" + parts[0], 1);
    }

    private void oneMoreThanTold() {
        check.about(4, "5 'break' LINES of a CARRIER at most");
        String breaks = CARRIER + Texts.breaks(5);
        texts.reads(CARRIER + Texts.breaks(1) + ZONES + ORDER);
        texts.reads(breaks + ZONES + ORDER);
        texts.failsAtMark(breaks + "#break 6 0 0 0;" + ZONES + ORDER, 3);
        texts.failsAtMark(breaks + "#break", 3);
        texts.reads((breaks + ZONES).repeat(3) + ORDER);
        texts.failsAtMark((breaks + ZONES).repeat(2) + breaks + "#break", 3);
        check.about(4, "3 'zones' LINES of a CARRIER at most");
        String zones = CARRIER + BREAK + Texts.zones(3);
        texts.reads(zones + ORDER);
        texts.failsAtMark(zones + "#zones 4 0 0 0 0;" + ORDER, 3);
        texts.failsAtMark(zones + "#zones", 3);
        texts.reads(zones.repeat(3) + ORDER);
        texts.failsAtMark(zones.repeat(3) + "#zones", 3);
        check.about(4, "3 CARRIERS, 8 GOODS at most");
        texts.reads(ONE.repeat(2) + ORDER);
        texts.reads(ONE.repeat(3) + ORDER);
        texts.failsAtMark(ONE.repeat(3) + "#" + ONE + ORDER, 3);
        texts.failsAtMark(ONE.repeat(3) + "#carrier", 3);
        texts.reads(ONE + GOOD.repeat(7) + ORDER);
        texts.reads(ONE + GOOD.repeat(8) + ORDER);
        texts.failsAtMark(ONE + GOOD.repeat(8) + "#" + GOOD + ORDER, 3);
        texts.failsAtMark(ONE + GOOD.repeat(8) + "#good", 3);
        texts.failsAtMark(ONE.repeat(3) + GOOD.repeat(8) + "#good", 3);
        check.about(5, "3 one more 'carrier', 'good', 'break', 'zones' than told (at its WORD)");
        texts.failsAtMark(ONE.repeat(3) + " \n #carrier x", 3);
        texts.failsAtMark(ONE + GOOD.repeat(8) + " #good 1000", 3);
        texts.failsAtMark(breaks + "\n#break ;", 3);
        texts.failsAtMark(zones + "\n#zones 1", 3);
        texts.failsAtMark(ONE + "order 1 2;#order 1 2;", 1);
    }

    // ---- faults and where they stand

    private void firstAlongTheText() {
        check.about(5, "FAULTS, the first along the text");
        texts.failsAtMark("carrier #100 1000;", 2);
        texts.failsAtMark("carrier 1 #1000 0;", 1);
        texts.failsAtMark(ONE + "order #4 100", 2);
        texts.failsAtMark(ONE + "order 3 #100 x", 2);
        texts.failsAtMark(ONE.repeat(3) + "#carrier 0", 3);
        texts.failsAtMark("carrier #0;" + ONE.repeat(4), 2);
        texts.failsAtMark("#x carrier 0", 1);
        texts.failsAtMark(CARRIER + "break 5 #1000 2 3;" + ZONES.repeat(4), 1);
        texts.failsAtMark(CARRIER + BREAK + "zones 0 0 #4 0 0", 2);
    }

    private void firstInTheList() {
        check.about(5, "of one TOKEN the one that stands first in this list");
        texts.failsAtMark(ONE + "good #1000 1 1;", 1);
        texts.failsAtMark(ONE + "good 1 1 1 #999;", 1);
        texts.failsAtMark(ONE + ORDER + "#100", 1);
        texts.failsAtMark(ONE.repeat(2) + CARRIER + "#carrier", 1);
        texts.failsAtMark(ONE.repeat(2) + CARRIER + BREAK + "#carrier", 1);
        texts.failsAtMark(ONE.repeat(3) + GOOD + "#carrier", 1);
        texts.failsAtMark(ONE.repeat(3) + "good #carrier", 1);
        texts.failsAtMark(CARRIER + Texts.breaks(5) + ZONES + "#break", 1);
        texts.failsAtMark(CARRIER + Texts.breaks(5) + "#good", 1);
        texts.failsAtMark(CARRIER + BREAK + Texts.zones(3) + GOOD + "#zones", 1);
        texts.failsAtMark(CARRIER + BREAK + Texts.zones(3) + CARRIER + "#zones", 1);
        texts.failsAtMark(ONE + GOOD.repeat(8) + ORDER + "#good", 1);
        texts.failsAtMark(ONE + GOOD.repeat(8) + "order #good", 1);
        texts.failsAtMark(ONE + GOOD.repeat(8) + "#goods", 1);
        check.about(5, "2 a NUMBER that is not as told (at it)");
        texts.failsAtMark(ONE + "good 1 \n #0 1;", 2);
        texts.failsAtMark(ONE + "good 1 \n #000 1;", 2);
        texts.failsAtMark(ONE + "order 0 #999;", 2);
    }

    private void endOfTheText() {
        check.about(5, "the end: how many bytes there are");
        texts.fails("", 0, 1);
        texts.fails(" ", 1, 1);
        texts.fails("\n\n", 2, 1);
        texts.fails("carrier", 7, 1);
        texts.fails("carrier ", 8, 1);
        texts.fails(ONE, ONE.length(), 1);
        texts.fails(ONE + "  \n", ONE.length() + 3, 1);
        texts.fails(ONE + "order 1 2", ONE.length() + 9, 1);
        texts.fails(ONE + "order 1 2  ", ONE.length() + 11, 1);
        texts.fails(" ".repeat(699), 699, 1);
        texts.fails(" ".repeat(700), 700, 1);
        texts.fails(Texts.filled(ONE, 699), 699, 1);
        texts.fails(Texts.filled(ONE, 700), 700, 1);
        texts.fails(Texts.filled(ONE + "order", 700), 700, 1);
    }

    private void sevenHundredBytes() {
        check.about(4, "A TEXT has at most 700 bytes");
        String late = Texts.filled(ONE, 700 - ORDER.length()) + ORDER;
        due("bytes of the test's text", late.length(), 700);
        texts.reads(late, 4);
        texts.reads(Texts.filled(ONE + ORDER, 699), 4);
        texts.reads(Texts.filled(ONE + ORDER, 700), 4);
        texts.reads(" ".repeat(700 - (ONE + ORDER).length()) + ONE + ORDER, 4);
        check.about(5, "700, if there are more and no FAULT is ahead");
        for (int bytes : new int[] {701, 702, 720, 739, 740}) {
            texts.fails(Texts.filled(ONE + ORDER, bytes), 700, 1);
            texts.fails(Texts.filled(ONE, bytes), 700, 1);
            texts.fails(" ".repeat(bytes), 700, 1);
            texts.fails(Texts.filled(ONE + ORDER, bytes - 1) + "x", 700, 1);
            texts.fails(Texts.filled(ONE + "#" + ORDER, bytes), ONE.length(), 1);
            texts.fails(Texts.filled(ONE + "order 4 2;", bytes), ONE.length() + 6, 2);
            texts.fails(Texts.filled(ONE.repeat(4) + ORDER, bytes), 3 * ONE.length(), 3);
        }
        texts.fails(late + " ", 700, 1);
        texts.fails(" " + late, 700, 1);
        texts.fails(Texts.filled(ONE + ORDER, 699) + ";", 699, 1);
        texts.fails(Texts.filled(ONE + ORDER, 700) + ";", 700, 1);
        texts.fails(Texts.filled(ONE + ORDER, 699) + "x ", 699, 1);
        texts.fails(Texts.filled(ONE + ORDER, 698) + "\tx", 698, 1);
    }

    private void tokensAcrossTheEnd() {
        check.about(5, "TOKENS that begin ahead of it are read whole");
        String number = Texts.filled(ONE + "order 1", 699);
        texts.fails(number + "9", 700, 1);
        texts.fails(number + "99;", 700, 1);
        texts.fails(number + "100;", 699, 2);
        texts.fails(number + "0099;", 699, 1);
        texts.fails(number + "9999;", 699, 1);
        texts.fails(number + "9x;", 699, 1);
        texts.fails(number + "9" + "9".repeat(40), 699, 1);
        texts.fails(number + " 100;", 700, 1);
        texts.fails(number + " 9x;", 700, 1);
        String line = Texts.filled(ONE, 699);
        texts.fails(line + "order 1 2;", 700, 1);
        texts.fails(line + "order", 700, 1);
        texts.fails(line + "orders 1 2;", 699, 1);
        texts.fails(line + "orde", 699, 1);
        texts.fails(line + "o", 699, 1);
        texts.fails(line + "order1 2;", 699, 1);
        texts.fails(line + " x", 700, 1);
        texts.fails(Texts.filled(ONE, 693) + "order 1 2;", 700, 1);
        texts.fails(Texts.filled(ONE + GOOD.repeat(8), 699) + "good 1", 699, 3);
        texts.fails(Texts.filled(ONE + GOOD.repeat(8), 700) + "good 1", 700, 1);
        texts.fails(Texts.filled(ONE + GOOD.repeat(7), 699) + "good 1", 700, 1);
        texts.fails(Texts.filled(ONE + "order 1 2", 699) + ";;", 700, 1);
    }
}
