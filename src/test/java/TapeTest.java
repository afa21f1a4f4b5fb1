/** Promises 1 to 5: a new object, feed, end, text, fault. */
public final class TapeTest {
    private static final Check CHECK = new Check();
    private static final Texts TEXTS = new Texts(CHECK);
    private static final String CARRIER = Texts.CARRIER;
    private static final String BREAK = Texts.BREAK;
    private static final String ZONES = Texts.ZONES;
    private static final String ONE = Texts.ONE;
    private static final String ORDER = Texts.ORDER;

    public static void main(String[] args) {
        newObject();
        feed();
        end();
        textTakesTheTape();
        linesInTheirOrder();
        signsAndBlanks();
        faultKeepsAll();
        textBeginsAnew();
        CHECK.close();
    }

    private static void due(String what, long got, long want) {
        CHECK.due(what, got, want);
    }

    private static void reads(String text, int lines) {
        TEXTS.reads(text, lines);
    }

    private static void failsAtMark(String text, int kind) {
        TEXTS.failsAtMark(text, kind);
    }

    private static void newObject() {
        ParcelSplit split = new ParcelSplit();
        due("carriers at first", split.now(0), 1);
        due("goods at first", split.now(1), 0);
        due("place at first", split.now(2), 0);
        due("day at first", split.now(3), 0);
        due("packed goods at first", split.now(4), 0);
        due("parcels at first", split.now(5), 0);
        due("undoable at first", split.now(6), 0);
        due("tape at first", split.now(7), 0);
        due("fault at first", split.fault(), 0);
        for (int place = 0; place < 4; place++) {
            due("order at first", split.order(place, 99) ? 1 : 0, 1);
            due("zone at first, place " + place, split.zone(0), 0);
        }
        due("rate at first", split.rate(0, 99), 0);
        due("rate above at first", split.rate(0, 100), -2);
        due("bound at first", split.bound(), 0);
        for (int parcel = 0; parcel < 8; parcel++) {
            due("carrier of a parcel at first", split.parcel(parcel, 1), 0);
            due("claim of a parcel at first", split.parcel(parcel, 2), -1);
        }
    }

    private static void feed() {
        ParcelSplit split = new ParcelSplit();
        for (int i = 1; i <= 37; i++) {
            due("feed " + i, split.feed(0, 0, 0, 0, 0), 20 * i);
        }
        due("feed above 740", split.feed(0, 0, 0, 0, 0), -1);
        due("tape behind it", split.now(7), 740);
        split.end(721);
        due("feed of 721", split.feed(0, 0, 0, 0, 0), -1);
        due("none come", split.now(7), 721);
        split.end(720);
        due("feed of 720", split.feed(0, 0, 0, 0, 0), 740);
        split.end(0);
        due("feed of 0", split.feed(-1, -1, -1, -1, -1), 20);
        due("bytes above 127 are no tokens", split.text(), -1);
        due("the highest byte comes first", split.feed(0x20202061, 0, 0, 0, 0), 20);
        split.end(4);
        due("so the letter is the fourth", split.text(), -4);
        due("the fifth number is last", split.feed(0x20202020, 0x0a0a0a0a, 0x20202020, 0x20202020, 0x20202061), 20);
        due("so the letter is the twentieth", split.text(), -20);
    }

    private static void end() {
        ParcelSplit split = new ParcelSplit();
        CHECK.due("end(0) of none", split.end(0), true);
        CHECK.due("end(1) of none", split.end(1), false);
        split.feed(1, 2, 3, 4, 5);
        CHECK.due("end(21) of 20", split.end(21), false);
        CHECK.due("end(-1)", split.end(-1), false);
        CHECK.due("end of the least", split.end(Integer.MIN_VALUE), false);
        CHECK.due("end of the most", split.end(Integer.MAX_VALUE), false);
        due("tape stays", split.now(7), 20);
        CHECK.due("end(20) of 20", split.end(20), true);
        due("tape is whole", split.now(7), 20);
        CHECK.due("end(7)", split.end(7), true);
        due("tape of 7", split.now(7), 7);
        CHECK.due("end(8) of 7", split.end(8), false);
        CHECK.due("end(0)", split.end(0), true);
        due("tape of 0", split.now(7), 0);
        Check.lay(split, ONE + ORDER + "good");
        split.end((ONE + ORDER).length());
        due("what is behind the end is not read", split.text(), 4);
    }

    private static void textTakesTheTape() {
        ParcelSplit split = new ParcelSplit();
        due("a right text", Check.read(split, ONE + ORDER), 4);
        due("tape behind a right text", split.now(7), 0);
        due("a wrong text", Check.read(split, ONE), -1 - ONE.length());
        due("tape behind a wrong text", split.now(7), 0);
        due("fault", split.fault(), 1);
        due("an empty text", split.text(), -1);
        due("fault of an empty text", split.fault(), 1);
        due("a right text again", Check.read(split, ONE + ORDER), 4);
        due("no fault any more", split.fault(), 0);
    }

    private static void linesInTheirOrder() {
        String good = "good 1 1 1;";
        reads(ONE + ONE + ONE + good + good + ORDER, 12);
        reads(CARRIER + BREAK + "break 6 0 0 0;" + ZONES + "zones 1 0 0 0 0;" + ORDER, 6);
        failsAtMark("#", 1);
        failsAtMark("#order 0 0;", 1);
        failsAtMark("#good 1 1 1;", 1);
        failsAtMark("#break 5 1 2 3;", 1);
        failsAtMark(CARRIER + "#zones 0 0 0 0 0;", 1);
        failsAtMark(CARRIER + "#carrier", 1);
        failsAtMark(CARRIER + BREAK + "#order 0 0;", 1);
        failsAtMark(CARRIER + BREAK + "#good 1 1 1;", 1);
        failsAtMark(CARRIER + BREAK + "#carrier", 1);
        failsAtMark(ONE + "#break 6 1 1 1;", 1);
        failsAtMark(ONE + good + "#carrier 9", 1);
        failsAtMark(ONE + good + "#zones 1", 1);
        failsAtMark(ONE + good + "#break 6", 1);
        failsAtMark(ONE + ORDER + "#good 1 1 1;", 1);
        failsAtMark(ONE + ORDER + "#order 1 1;", 1);
        failsAtMark(ONE + ORDER + "#;", 1);
        failsAtMark(ONE + "order 1 2#", 1);
        failsAtMark(ONE + "order 1#", 1);
        failsAtMark(ONE + "order 1#;", 1);
        failsAtMark(ONE + "order 1 2 #3;", 1);
        failsAtMark(ONE + "order 1 #order", 1);
        failsAtMark(ONE + "#7;", 1);
        failsAtMark(ONE + "#;", 1);
        failsAtMark("carrier 9 9 9 0 9#;", 1);
        failsAtMark("carrier 9 9 9 0 9 0 #0;", 1);
        failsAtMark(CARRIER + "break 5 1 2#;", 1);
        failsAtMark(CARRIER + BREAK + "zones 0 1 2 3#;", 1);
        failsAtMark(ONE + "good 1 1#;", 1);
    }

    private static void signsAndBlanks() {
        reads(" \n" + ONE.replace(" ", "\n \n").replace(";", " ;\n") + ORDER + "  \n", 4);
        reads(ONE.replace(" 0", " 000") + "order 003 099;", 4);
        failsAtMark("#carrier9 9 9 0 9 0;", 1);
        failsAtMark("#Carrier 9 9 9 0 9 0;", 1);
        failsAtMark("#carriers 9 9 9 0 9 0;", 1);
        failsAtMark("#carrie", 1);
        for (String word : new String[] {"xarrier", "carriex", "caxrier"}) {
            failsAtMark("#" + word + " 9 9 9 0 9 0;" + BREAK + ZONES + ORDER, 1);
        }
        failsAtMark(CARRIER + "#xreak 5 1 2 3;" + ZONES + ORDER, 1);
        failsAtMark(CARRIER + BREAK + "#xones 0 0 0 0 0;" + ORDER, 1);
        failsAtMark(ONE + "#xood 1 1 1;" + ORDER, 1);
        failsAtMark(ONE + "#xrder 1 1;", 1);
        failsAtMark("carrier #9a 9 9 0 9 0;", 1);
        failsAtMark("carrier #0009 9 9 0 9 0;", 1);
        failsAtMark("carrier #-9 9 9 0 9 0;", 1);
        failsAtMark("carrier 9#,9 9 0 9 0;", 1);
        failsAtMark("carrier#\t9 9 9 0 9 0;", 1);
        failsAtMark("carrier#\r9 9 9 0 9 0;", 1);
        failsAtMark("carrier 9#" + (char) 0 + "9 9 0 9 0;", 1);
        failsAtMark("carrier 9#" + (char) 0xb2 + "9 9 0 9 0;", 1);
        failsAtMark(ONE + ORDER + " #" + (char) 0, 1);
        failsAtMark(ONE + ORDER + " #good1", 1);
        for (char sign : new char[] {31, 33, '/', ':', '<', '`', '{', 9, 11, 127, 128, 255}) {
            failsAtMark(ONE + ORDER.replace(" ", "  ") + "#" + sign, 1);
        }
        failsAtMark(ONE + "order 1 2 #" + (char) (';' + 128), 1);
    }

    private static void faultKeepsAll() {
        ParcelSplit split = Check.made(ONE + "good 2 3 4;" + ORDER);
        split.put(0, 5);
        split.by(5, 0);
        split.claim(5, 9);
        String unended = ONE + ONE + "good 9 9 9;good 8 8 8;order 0 0";
        due("a fault behind many lines", Check.read(split, unended), -1 - unended.length());
        due("carriers stay", split.now(0), 1);
        due("goods stay", split.now(1), 1);
        due("place stays", split.now(2), 1);
        due("day stays", split.now(3), 2);
        due("packed goods stay", split.now(4), 1);
        due("parcels stay", split.now(5), 32);
        due("acts stay", split.now(6), 3);
        due("kilos stay", Check.good(split, 0, 0), 2);
        due("a claim stays", split.parcel(5, 2), 9);
        due("zone stays", split.zone(0), 1);
        due("rate stays", split.rate(0, 5), 2);
        due("the charge stays", split.charge(1, 0), 2);
        due("undo goes on", split.undo(), 2);
    }

    private static void textBeginsAnew() {
        ParcelSplit split = Check.made(ONE + ONE + "good 2 3 4;" + ORDER);
        split.put(0, 5);
        split.by(5, 1);
        split.by(6, 1);
        split.claim(5, 9);
        split.order(3, 77);
        due("a new text", Check.read(split, ONE + "good 1 2 3;good 2 3 4;" + ORDER), 6);
        due("carriers", split.now(0), 1);
        due("goods", split.now(1), 2);
        due("place", split.now(2), 1);
        due("day", split.now(3), 2);
        due("no good is in a parcel", split.now(4), 0);
        due("no parcel has goods", split.now(5), 0);
        due("nothing can be undone", split.now(6), 0);
        due("undo", split.undo(), -1);
        due("no claim", split.parcel(5, 2), -1);
        due("carrier of a parcel", split.parcel(5, 1), 0);
        due("carrier of another", split.parcel(6, 1), 0);
        due("least of the new goods", split.least(), 2);
    }
}
