/** Promises 1 to 5: a new object, feed, end, text, fault. */
public final class TapeTest {
    private static final Check CHECK = new Check();
    private static final String CARRIER = "carrier 9 9 9 0 9 0;";
    private static final String BREAK = "break 5 1 2 3;";
    private static final String ZONES = "zones 0 0 1 2 3;";
    private static final String ONE = CARRIER + BREAK + ZONES;
    private static final String ORDER = "order 1 2;";

    public static void main(String[] args) {
        newObject();
        feed();
        end();
        textTakesTheTape();
        linesInTheirOrder();
        signsAndBlanks();
        ranges();
        risingNumbers();
        oneMoreThanTold();
        firstFault();
        sevenHundredBytes();
        faultKeepsAll();
        textBeginsAnew();
        CHECK.close();
    }

    private static void due(String what, long got, long want) {
        CHECK.due(what, got, want);
    }

    private static void reads(String text, int lines) {
        ParcelSplit split = new ParcelSplit();
        due("text of '" + text + "'", Check.read(split, text), lines);
        due("fault of '" + text + "'", split.fault(), 0);
    }

    private static void fails(String text, int place, int kind) {
        ParcelSplit split = new ParcelSplit();
        due("text of '" + text + "'", Check.read(split, text), -1 - place);
        due("fault of '" + text + "'", split.fault(), kind);
    }

    /** The fault is at the sign '#', which is taken out of the text. */
    private static void failsAtMark(String text, int kind) {
        fails(text.replace("#", ""), text.indexOf('#'), kind);
    }

    private static void newObject() {
        ParcelSplit split = new ParcelSplit();
        due("carriers at first", split.now(0), 1);
        due("goods at first", split.now(1), 0);
        due("place at first", split.now(2), 0);
        due("day at first", split.now(3), 0);
        due("packed goods at first", split.now(4), 0);
        due("parcels at first", split.now(5), 0);
        due("undoable at first", split.now(6), 0);
        due("tape at first", split.now(7), 0);
        due("fault at first", split.fault(), 0);
        for (int place = 0; place < 4; place++) {
            due("order at first", split.order(place, 99) ? 1 : 0, 1);
            due("zone at first, place " + place, split.zone(0), 0);
        }
        due("rate at first", split.rate(0, 99), 0);
        due("rate above at first", split.rate(0, 100), -2);
        due("bound at first", split.bound(), 0);
        for (int parcel = 0; parcel < 8; parcel++) {
            due("carrier of a parcel at first", split.parcel(parcel, 1), 0);
            due("claim of a parcel at first", split.parcel(parcel, 2), -1);
        }
    }

    private static void feed() {
        ParcelSplit split = new ParcelSplit();
        for (int i = 1; i <= 37; i++) {
            due("feed " + i, split.feed(0, 0, 0, 0, 0), 20 * i);
        }
        due("feed above 740", split.feed(0, 0, 0, 0, 0), -1);
        due("tape behind it", split.now(7), 740);
        split.end(721);
        due("feed of 721", split.feed(0, 0, 0, 0, 0), -1);
        due("none come", split.now(7), 721);
        split.end(720);
        due("feed of 720", split.feed(0, 0, 0, 0, 0), 740);
        split.end(0);
        due("feed of 0", split.feed(-1, -1, -1, -1, -1), 20);
        due("bytes above 127 are no tokens", split.text(), -1);
        due("the highest byte comes first", split.feed(0x20202061, 0, 0, 0, 0), 20);
        split.end(4);
        due("so the letter is the fourth", split.text(), -4);
        due("the fifth number is last", split.feed(0x20202020, 0x0a0a0a0a, 0x20202020, 0x20202020, 0x20202061), 20);
        due("so the letter is the twentieth", split.text(), -20);
    }

    private static void end() {
        ParcelSplit split = new ParcelSplit();
        CHECK.due("end(0) of none", split.end(0), true);
        CHECK.due("end(1) of none", split.end(1), false);
        split.feed(1, 2, 3, 4, 5);
        CHECK.due("end(21) of 20", split.end(21), false);
        CHECK.due("end(-1)", split.end(-1), false);
        CHECK.due("end of the least", split.end(Integer.MIN_VALUE), false);
        CHECK.due("end of the most", split.end(Integer.MAX_VALUE), false);
        due("tape stays", split.now(7), 20);
        CHECK.due("end(20) of 20", split.end(20), true);
        due("tape is whole", split.now(7), 20);
        CHECK.due("end(7)", split.end(7), true);
        due("tape of 7", split.now(7), 7);
        CHECK.due("end(8) of 7", split.end(8), false);
        CHECK.due("end(0)", split.end(0), true);
        due("tape of 0", split.now(7), 0);
        Check.lay(split, ONE + ORDER + "good");
        split.end((ONE + ORDER).length());
        due("what is behind the end is not read", split.text(), 4);
    }

    private static void textTakesTheTape() {
        ParcelSplit split = new ParcelSplit();
        due("a right text", Check.read(split, ONE + ORDER), 4);
        due("tape behind a right text", split.now(7), 0);
        due("a wrong text", Check.read(split, ONE), -1 - ONE.length());
        due("tape behind a wrong text", split.now(7), 0);
        due("fault", split.fault(), 1);
        due("an empty text", split.text(), -1);
        due("fault of an empty text", split.fault(), 1);
        due("a right text again", Check.read(split, ONE + ORDER), 4);
        due("no fault any more", split.fault(), 0);
    }

    private static void linesInTheirOrder() {
        String good = "good 1 1 1;";
        reads(ONE + ONE + ONE + good + good + ORDER, 12);
        reads(CARRIER + BREAK + "break 6 0 0 0;" + ZONES + "zones 1 0 0 0 0;" + ORDER, 6);
        failsAtMark("#", 1);
        failsAtMark("#order 0 0;", 1);
        failsAtMark("#good 1 1 1;", 1);
        failsAtMark("#break 5 1 2 3;", 1);
        failsAtMark(CARRIER + "#zones 0 0 0 0 0;", 1);
        failsAtMark(CARRIER + "#carrier", 1);
        failsAtMark(CARRIER + BREAK + "#order 0 0;", 1);
        failsAtMark(CARRIER + BREAK + "#good 1 1 1;", 1);
        failsAtMark(CARRIER + BREAK + "#carrier", 1);
        failsAtMark(ONE + "#break 6 1 1 1;", 1);
        failsAtMark(ONE + good + "#carrier 9", 1);
        failsAtMark(ONE + good + "#zones 1", 1);
        failsAtMark(ONE + good + "#break 6", 1);
        failsAtMark(ONE + ORDER + "#good 1 1 1;", 1);
        failsAtMark(ONE + ORDER + "#order 1 1;", 1);
        failsAtMark(ONE + ORDER + "#;", 1);
        failsAtMark(ONE + "order 1 2#", 1);
        failsAtMark(ONE + "order 1#", 1);
        failsAtMark(ONE + "order 1#;", 1);
        failsAtMark(ONE + "order 1 2 #3;", 1);
        failsAtMark(ONE + "order 1 #order", 1);
        failsAtMark(ONE + "#7;", 1);
        failsAtMark(ONE + "#;", 1);
        failsAtMark("carrier 9 9 9 0 9#;", 1);
        failsAtMark("carrier 9 9 9 0 9 0 #0;", 1);
        failsAtMark(CARRIER + "break 5 1 2#;", 1);
        failsAtMark(CARRIER + BREAK + "zones 0 1 2 3#;", 1);
        failsAtMark(ONE + "good 1 1#;", 1);
    }

    private static void signsAndBlanks() {
        reads(" \n" + ONE.replace(" ", "\n \n").replace(";", " ;\n") + ORDER + "  \n", 4);
        reads(ONE.replace(" 0", " 000") + "order 003 099;", 4);
        failsAtMark("#carrier9 9 9 0 9 0;", 1);
        failsAtMark("#Carrier 9 9 9 0 9 0;", 1);
        failsAtMark("#carriers 9 9 9 0 9 0;", 1);
        failsAtMark("#carrie", 1);
        for (String word : new String[] {"xarrier", "carriex", "caxrier"}) {
            failsAtMark("#" + word + " 9 9 9 0 9 0;" + BREAK + ZONES + ORDER, 1);
        }
        failsAtMark(CARRIER + "#xreak 5 1 2 3;" + ZONES + ORDER, 1);
        failsAtMark(CARRIER + BREAK + "#xones 0 0 0 0 0;" + ORDER, 1);
        failsAtMark(ONE + "#xood 1 1 1;" + ORDER, 1);
        failsAtMark(ONE + "#xrder 1 1;", 1);
        failsAtMark("carrier #9a 9 9 0 9 0;", 1);
        failsAtMark("carrier #0009 9 9 0 9 0;", 1);
        failsAtMark("carrier #-9 9 9 0 9 0;", 1);
        failsAtMark("carrier 9#,9 9 0 9 0;", 1);
        failsAtMark("carrier#\t9 9 9 0 9 0;", 1);
        failsAtMark("carrier#\r9 9 9 0 9 0;", 1);
        failsAtMark("carrier 9#" + (char) 0 + "9 9 0 9 0;", 1);
        failsAtMark("carrier 9#" + (char) 0xb2 + "9 9 0 9 0;", 1);
        failsAtMark(ONE + ORDER + " #" + (char) 0, 1);
        failsAtMark(ONE + ORDER + " #good1", 1);
        for (char sign : new char[] {31, 33, '/', ':', '<', '`', '{', 9, 11, 127, 128, 255}) {
            failsAtMark(ONE + ORDER.replace(" ", "  ") + "#" + sign, 1);
        }
        failsAtMark(ONE + "order 1 2 #" + (char) (';' + 128), 1);
    }

    /** Each number of a line at its lowest and highest, and one below and above them. */
    private static void range(String ahead, String word, String[] numbers, int which, int lowest, int highest, String behind) {
        for (int n : new int[] {lowest - 1, lowest, highest, highest + 1}) {
            if (n < 0) {
                continue;
            }
            StringBuilder text = new StringBuilder(ahead).append(word);
            for (int i = 0; i < numbers.length; i++) {
                text.append(i == which ? " #" + n : " " + numbers[i]);
            }
            text.append(';').append(behind);
            if (n >= lowest && n <= highest) {
                String right = text.toString().replace("#", "");
                reads(right, (int) right.chars().filter(c -> c == ';').count());
            } else {
                failsAtMark(text.toString(), n > 999 ? 1 : 2);
            }
        }
    }

    private static void ranges() {
        String[] carrier = {"9", "9", "9", "9", "9", "9"};
        int[] carrierLowest = {1, 1, 1, 0, 1, 0};
        int[] carrierHighest = {99, 999, 99, 99, 999, 999};
        for (int i = 0; i < 6; i++) {
            range("", "carrier", carrier, i, carrierLowest[i], carrierHighest[i], BREAK + ZONES + ORDER);
        }
        String[] line = {"9", "0", "0", "0"};
        for (int i = 0; i < 4; i++) {
            range(CARRIER, "break", line, i, i == 0 ? 1 : 0, i == 0 ? 99 : 999, ZONES + ORDER);
        }
        String[] zones = {"9", "0", "0", "0", "0"};
        for (int i = 0; i < 5; i++) {
            range(ONE, "zones", zones, i, i == 0 ? 1 : 0, i == 0 ? 99 : 3, ORDER);
        }
        String[] good = {"1", "1", "1"};
        for (int i = 0; i < 3; i++) {
            range(ONE, "good", good, i, 1, i == 0 ? 99 : 999, ORDER);
        }
        range(ONE, "order", new String[] {"0", "0"}, 0, 0, 3, "");
        range(ONE, "order", new String[] {"0", "0"}, 1, 0, 99, "");
    }

    private static void risingNumbers() {
        failsAtMark(CARRIER + BREAK + "break #5 1 1 1;", 2);
        failsAtMark(CARRIER + BREAK + "break #4 1 1 1;", 2);
        reads(CARRIER + BREAK + "break 6 1 1 1;" + ZONES + ORDER, 5);
        failsAtMark(CARRIER + "break 99 1 1 1;break #99 1 1 1;", 2);
        failsAtMark(CARRIER + BREAK + "zones #1 0 0 0 0;", 2);
        failsAtMark(ONE + "zones #0 0 0 0 0;", 2);
        reads(ONE + "zones 1 0 0 0 0;zones 2 0 0 0 0;" + ORDER, 6);
        failsAtMark(ONE + "zones 7 0 0 0 0;zones #7 0 0 0 0;", 2);
        failsAtMark(ONE + "zones 7 0 0 0 0;zones #6 0 0 0 0;", 2);
        reads(ONE.replace("break 5", "break 50") + ONE + ORDER, 7);
        failsAtMark(ONE + "zones 5 0 0 0 0;" + CARRIER + BREAK + "zones #6 0 0 0 0;", 2);
    }

    private static void oneMoreThanTold() {
        String breaks = CARRIER + "break 1 0 0 0;break 2 0 0 0;break 3 0 0 0;break 4 0 0 0;break 5 0 0 0;";
        reads(breaks + ZONES + ORDER, 8);
        failsAtMark(breaks + "#break", 3);
        String zones = ONE + "zones 1 0 0 0 0;zones 2 0 0 0 0;";
        reads(zones + ORDER, 6);
        failsAtMark(zones + "#zones 1", 3);
        reads(ONE + ONE + ONE + ORDER, 10);
        failsAtMark(ONE + ONE + ONE + "#carrier x", 3);
        String goods = ONE + "good 1 1 1;".repeat(8);
        reads(goods + ORDER, 12);
        failsAtMark(goods + "#good 1000", 3);
        failsAtMark(ONE + ONE + CARRIER + BREAK + "#carrier", 1);
        failsAtMark(zones + "good 1 1 1;#zones", 1);
        failsAtMark(breaks + ZONES + "#break", 1);
        reads(breaks + ZONES + breaks + ZONES + ORDER, 15);
    }

    private static void firstFault() {
        failsAtMark("carrier #100 1000;", 2);
        failsAtMark("carrier 1 #1000 0;", 1);
        failsAtMark(ONE + "order #4 100", 2);
    }

    private static String filled(String text, int bytes) {
        return text + " ".repeat(bytes - text.length());
    }

    private static void sevenHundredBytes() {
        reads(filled(ONE, 700 - ORDER.length()) + ORDER, 4);
        reads(filled(ONE + ORDER, 700), 4);
        fails(filled(ONE + ORDER, 701), 700, 1);
        fails(filled(ONE + ORDER, 740), 700, 1);
        fails(filled(ONE, 701 - ORDER.length()) + ORDER, 700, 1);
        fails(filled(ONE + ORDER, 699) + ";", 699, 1);
        fails(filled(ONE + ORDER, 700) + ";", 700, 1);
        fails(filled(ONE, 690), 690, 1);
        fails(filled(ONE, 740), 700, 1);
        fails(filled(ONE + "order 1", 699) + "99;", 700, 1);
        fails(filled(ONE + "order 1", 699) + "100;", 699, 2);
        fails(filled(ONE + "order 1", 699) + "9999;", 699, 1);
        fails(filled(ONE + "order 1", 699) + "9x;", 699, 1);
        fails(filled(ONE + "order 1", 700) + "100;", 700, 1);
        fails(filled(ONE, 698) + "order 1 2;", 700, 1);
        fails(filled(ONE, 698) + "orders 1 2;", 698, 1);
        fails(filled(ONE + "good 1 1 1;".repeat(8), 697) + "good 1", 697, 3);
        fails(filled(ONE, 720) + (char) 0, 700, 1);
        fails(filled(ONE + "; ", 740), ONE.length(), 1);
    }

    private static void faultKeepsAll() {
        ParcelSplit split = Check.made(ONE + "good 2 3 4;" + ORDER);
        split.put(0, 5);
        split.by(5, 0);
        split.claim(5, 9);
        String unended = ONE + ONE + "good 9 9 9;good 8 8 8;order 0 0";
        due("a fault behind many lines", Check.read(split, unended), -1 - unended.length());
        due("carriers stay", split.now(0), 1);
        due("goods stay", split.now(1), 1);
        due("place stays", split.now(2), 1);
        due("day stays", split.now(3), 2);
        due("packed goods stay", split.now(4), 1);
        due("parcels stay", split.now(5), 32);
        due("acts stay", split.now(6), 3);
        due("kilos stay", Check.good(split, 0, 0), 2);
        due("a claim stays", split.parcel(5, 2), 9);
        due("zone stays", split.zone(0), 1);
        due("rate stays", split.rate(0, 5), 2);
        due("the charge stays", split.charge(1, 0), 2);
        due("undo goes on", split.undo(), 2);
    }

    private static void textBeginsAnew() {
        ParcelSplit split = Check.made(ONE + ONE + "good 2 3 4;" + ORDER);
        split.put(0, 5);
        split.by(5, 1);
        split.by(6, 1);
        split.claim(5, 9);
        split.order(3, 77);
        due("a new text", Check.read(split, ONE + "good 1 2 3;good 2 3 4;" + ORDER), 6);
        due("carriers", split.now(0), 1);
        due("goods", split.now(1), 2);
        due("place", split.now(2), 1);
        due("day", split.now(3), 2);
        due("no good is in a parcel", split.now(4), 0);
        due("no parcel has goods", split.now(5), 0);
        due("nothing can be undone", split.now(6), 0);
        due("undo", split.undo(), -1);
        due("no claim", split.parcel(5, 2), -1);
        due("carrier of a parcel", split.parcel(5, 1), 0);
        due("carrier of another", split.parcel(6, 1), 0);
        due("least of the new goods", split.least(), 2);
    }
}
