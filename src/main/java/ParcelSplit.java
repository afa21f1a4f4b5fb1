import java.util.Arrays;
import java.util.NoSuchElementException;

/** Cuts the goods of an order into parcels over carriers; the promises are those of DOC.md. */
public final class ParcelSplit {
    public static final int NONE = -1;

    private static final int NO_SUCH_PARCEL = NONE - 99;
    private static final int NOT_TO_BE_HAD = -2;
    private static final int ALREADY_THERE = -2;
    private static final int NO_SUCH_PUT = -3;

    private static final int CARRIERS = 3;
    private static final int GOODS = 8;
    private static final int SETS = 256;
    private static final int PARCELS = 8;
    private static final int LAST_PLACE = 3;
    private static final int LAST_DAY = 99;
    private static final int MOST_BILLED = 999;
    private static final int MOST_CLAIMED = 99;
    private static final int UNSERVED = 3;

    /** The lines of a text by their first words; START stands for the text's beginning. */
    private static final int CARRIER_LINE = 0;
    private static final int BREAK_LINE = 1;
    private static final int ZONES_LINE = 2;
    private static final int GOOD_LINE = 3;
    private static final int ORDER_LINE = 4;
    private static final int START = 5;

    /** Where the numbers stand in their lines. */
    private static final int MOST = 0;
    private static final int ROOM = 1;
    private static final int BY = 2;
    private static final int FUEL = 3;
    private static final int LONG = 4;
    private static final int EXTRA = 5;
    private static final int UPTO = 0;
    private static final int FIRST_PRICE = 1;
    private static final int FROM = 0;
    private static final int FIRST_ZONE = 1;
    private static final int KILOS = 0;
    private static final int LITRES = 1;
    private static final int LENGTH = 2;

    private final Tape tape;
    private final Book book;
    private final Book draft;
    private final Reader reader;
    private final Prices prices;
    private final Splitter splitter;
    private final Plan plan;
    private int faultKind;

    public ParcelSplit() {
        tape = new Tape();
        book = new Book();
        draft = new Book();
        reader = new Reader(tape, draft);
        prices = new Prices(book);
        splitter = new Splitter(book, prices);
        plan = new Plan();
        book.fillAtFirst();
        beginAnew();
    }

    public int feed(int a, int b, int c, int d, int e) {
        if (!tape.hasRoomForFive()) {
            return NONE;
        }
        tape.append(a);
        tape.append(b);
        tape.append(c);
        tape.append(d);
        tape.append(e);
        return tape.size();
    }

    public boolean end(int n) {
        return tape.cutTo(n);
    }

    public int text() {
        int answer = reader.read();
        faultKind = reader.faultKind();
        tape.cutTo(0);
        if (faultKind == Reader.NO_FAULT) {
            book.copyFrom(draft);
            beginAnew();
        }
        return answer;
    }

    public int fault() {
        return faultKind;
    }

    public int now(int what) {
        switch (what) {
            case 0:
                return book.carrierCount();
            case 1:
                return book.goodCount();
            case 2:
                return plan.place();
            case 3:
                return plan.day();
            case 4:
                return plan.packedGoods();
            case 5:
                return plan.filledParcels();
            case 6:
                return plan.keptCount();
            case 7:
                return tape.size();
            default:
                return NONE;
        }
    }

    public int good(int good, int what) throws NoSuchElementException {
        if (!book.hasGood(good)) {
            throw new NoSuchElementException("no such good");
        }
        switch (what) {
            case 0:
                return book.goodNumber(good, KILOS);
            case 1:
                return book.goodNumber(good, LITRES);
            case 2:
                return book.goodNumber(good, LENGTH);
            case 3:
                return plan.parcelOf(good);
            default:
                throw new NoSuchElementException("no such what");
        }
    }

    public int zone(int carrier) {
        return book.hasCarrier(carrier) ? zoneNow(carrier) : NONE;
    }

    public int rate(int carrier, int billed) {
        if (!book.hasCarrier(carrier) || billed < 1 || billed > MOST_BILLED) {
            return NONE;
        }
        int price = prices.priceOf(carrier, zoneNow(carrier), billed);
        return price < 0 ? NOT_TO_BE_HAD : price;
    }

    public int billed(int goods, int carrier) {
        if (!book.hasSet(goods) || !book.hasCarrier(carrier)) {
            return NONE;
        }
        return prices.billedKilos(goods, carrier, prices.kilosOf(goods));
    }

    public int charge(int goods, int carrier) {
        if (!book.hasSet(goods) || !book.hasCarrier(carrier)) {
            return NONE;
        }
        return prices.chargeOf(goods, carrier, zoneNow(carrier), prices.kilosOf(goods));
    }

    public int cheapest(int goods) {
        if (!book.hasSet(goods)) {
            return NONE;
        }
        int offer = prices.leastOffer(goods, prices.zonesAt(plan.place(), plan.day()));
        return offer < 0 ? NOT_TO_BE_HAD : Prices.carrierOfOffer(offer);
    }

    public int least() {
        return splitter.leastCharge(plan.place(), plan.day());
    }

    public int split(int good, int what) {
        if (!book.hasGood(good) || what < 0 || what > 1) {
            return NONE;
        }
        if (splitter.leastCharge(plan.place(), plan.day()) < 0) {
            return NOT_TO_BE_HAD;
        }
        long row = splitter.leastRow(plan.place(), plan.day());
        return what == 0 ? Splitter.parcelIn(row, good) : Splitter.carrierIn(row, good);
    }

    public int bound() {
        return lowerBound();
    }

    public int gap() {
        int least = splitter.leastCharge(plan.place(), plan.day());
        int bound = lowerBound();
        return least < 0 || bound < 0 ? NONE : least - bound;
    }

    public int parcel(int parcel, int what) {
        if (!isParcel(parcel)) {
            return NO_SUCH_PARCEL;
        }
        switch (what) {
            case 0:
                return plan.goodsIn(parcel);
            case 1:
                return plan.carrierOf(parcel);
            case 2:
                return plan.claimedOf(parcel) == 0 ? NONE : plan.claimedOf(parcel);
            case 3:
                return parcelCharge(parcel, false);
            case 4:
                return parcelCharge(parcel, true);
            default:
                return NO_SUCH_PARCEL;
        }
    }

    public int total(int what) {
        if (what < 0 || what > 1) {
            return NONE;
        }
        int sum = 0;
        for (int parcel = 0; parcel < PARCELS; parcel++) {
            int charge = parcelCharge(parcel, what == 1);
            if (charge < 0) {
                return NOT_TO_BE_HAD;
            }
            sum += charge;
        }
        return sum;
    }

    public int would(int place, int day) {
        return isOrder(place, day) ? splitter.leastCharge(place, day) : NONE;
    }

    public int put(int good, int parcel) {
        if (!book.hasGood(good) || (parcel != NONE && !isParcel(parcel))) {
            return NO_SUCH_PUT;
        }
        int before = plan.parcelOf(good);
        if (before == parcel) {
            return ALREADY_THERE;
        }
        plan.keep();
        plan.moveGood(good, parcel);
        return before;
    }

    public int by(int parcel, int carrier) {
        if (!isParcel(parcel) || !book.hasCarrier(carrier)) {
            return NONE;
        }
        int before = plan.carrierOf(parcel);
        plan.keep();
        plan.setCarrier(parcel, carrier);
        return before;
    }

    public int take() {
        if (splitter.leastCharge(plan.place(), plan.day()) < 0) {
            return NOT_TO_BE_HAD;
        }
        long row = splitter.leastRow(plan.place(), plan.day());
        plan.keep();
        plan.unpack();
        for (int good = 0; good < book.goodCount(); good++) {
            int parcel = Splitter.parcelIn(row, good);
            plan.moveGood(good, parcel);
            plan.setCarrier(parcel, Splitter.carrierIn(row, good));
        }
        return Integer.bitCount(plan.filledParcels());
    }

    public int claim(int parcel, int kilos) {
        if (!isParcel(parcel) || kilos < 0 || kilos > MOST_CLAIMED || plan.goodsIn(parcel) == 0) {
            return NONE;
        }
        int before = plan.claimedOf(parcel);
        plan.keep();
        plan.setClaimed(parcel, kilos);
        return before;
    }

    public boolean order(int place, int day) {
        if (!isOrder(place, day)) {
            return false;
        }
        plan.keep();
        plan.setOrder(place, day);
        return true;
    }

    public int undo() {
        return plan.goBack() ? plan.keptCount() : NONE;
    }

    private void beginAnew() {
        prices.learn();
        splitter.forget();
        plan.begin(book.place(), book.day());
    }

    private int zoneNow(int carrier) {
        return prices.zoneOf(carrier, plan.place(), plan.day());
    }

    /** The least of the lines' own bounds, each rounded up: rounding keeps their order. */
    private int lowerBound() {
        int kilos = prices.kilosOf(book.fullSet());
        int least = NOT_TO_BE_HAD;
        for (int carrier = 0; carrier < book.carrierCount(); carrier++) {
            int zone = zoneNow(carrier);
            if (zone != UNSERVED) {
                int own = prices.boundBy(carrier, zone, kilos);
                least = least < 0 || own < least ? own : least;
            }
        }
        return least;
    }

    private int parcelCharge(int parcel, boolean byClaim) {
        int goods = plan.goodsIn(parcel);
        if (goods == 0) {
            return 0;
        }
        int claimed = plan.claimedOf(parcel);
        int kilos = byClaim && claimed > 0 ? claimed : prices.kilosOf(goods);
        int carrier = plan.carrierOf(parcel);
        return prices.chargeOf(goods, carrier, zoneNow(carrier), kilos);
    }

    private static boolean isParcel(int parcel) {
        return parcel >= 0 && parcel < PARCELS;
    }

    private static boolean isOrder(int place, int day) {
        return place >= 0 && place <= LAST_PLACE && day >= 0 && day <= LAST_DAY;
    }

    private static int at(int[] row, int index) {
        return index >= 0 && index < row.length ? row[index] : 0;
    }

    private static void store(int[] row, int index, int number) {
        if (index >= 0 && index < row.length) {
            row[index] = number;
        }
    }

    private static void copy(int[] from, int fromStart, int[] to, int toStart, int count) {
        for (int i = 0; i < count; i++) {
            store(to, toStart + i, at(from, fromStart + i));
        }
    }

    /** The bytes that were fed and are not read yet. */
    private static final class Tape {
        private static final int MOST_BYTES = 740;
        private static final int FIVE_NUMBERS = 20;

        private final byte[] bytes = new byte[MOST_BYTES];
        private int size;

        int size() {
            return size;
        }

        boolean hasRoomForFive() {
            return size + FIVE_NUMBERS <= MOST_BYTES;
        }

        void append(int number) {
            for (int shift = 24; shift >= 0; shift -= 8) {
                if (size >= 0 && size < bytes.length) {
                    bytes[size] = (byte) (number >> shift);
                    size++;
                }
            }
        }

        boolean cutTo(int n) {
            if (n < 0 || n > size) {
                return false;
            }
            size = n;
            return true;
        }

        int byteAt(int index) {
            return index >= 0 && index < size && index < bytes.length ? bytes[index] : 0;
        }
    }

    /** What a text tells: carriers with their lines, goods, the order. */
    private static final class Book {
        private static final int CARRIER_NUMBERS = 6;
        private static final int BREAKS = 5;
        private static final int BREAK_NUMBERS = 4;
        private static final int ZONES = 3;
        private static final int ZONES_NUMBERS = 5;
        private static final int GOOD_NUMBERS = 3;
        private static final int[] FIRST_CARRIER = {99, 999, 99, 0, 999, 0};
        private static final int[] FIRST_BREAK = {99, 0, 0, 0};
        private static final int[] FIRST_ZONES = {0, 0, 0, 0, 0};

        private final int[] carriers = new int[CARRIERS * CARRIER_NUMBERS];
        private final int[] breaks = new int[CARRIERS * BREAKS * BREAK_NUMBERS];
        private final int[] zones = new int[CARRIERS * ZONES * ZONES_NUMBERS];
        private final int[] goods = new int[GOODS * GOOD_NUMBERS];
        private final int[] breakCounts = new int[CARRIERS];
        private final int[] zonesCounts = new int[CARRIERS];
        private int carrierCount;
        private int goodCount;
        private int place;
        private int day;

        void clear() {
            Arrays.fill(breakCounts, 0);
            Arrays.fill(zonesCounts, 0);
            carrierCount = 0;
            goodCount = 0;
            place = 0;
            day = 0;
        }

        void fillAtFirst() {
            clear();
            addLine(CARRIER_LINE, FIRST_CARRIER);
            addLine(BREAK_LINE, FIRST_BREAK);
            addLine(ZONES_LINE, FIRST_ZONES);
        }

        void copyFrom(Book other) {
            copy(other.carriers, 0, carriers, 0, carriers.length);
            copy(other.breaks, 0, breaks, 0, breaks.length);
            copy(other.zones, 0, zones, 0, zones.length);
            copy(other.goods, 0, goods, 0, goods.length);
            copy(other.breakCounts, 0, breakCounts, 0, CARRIERS);
            copy(other.zonesCounts, 0, zonesCounts, 0, CARRIERS);
            carrierCount = other.carrierCount;
            goodCount = other.goodCount;
            place = other.place;
            day = other.day;
        }

        boolean isFull(int line) {
            switch (line) {
                case CARRIER_LINE:
                    return carrierCount >= CARRIERS;
                case BREAK_LINE:
                    return breakCount(carrierCount - 1) >= BREAKS;
                case ZONES_LINE:
                    return zonesCount(carrierCount - 1) >= ZONES;
                case GOOD_LINE:
                    return goodCount >= GOODS;
                default:
                    return false;
            }
        }

        /** Lines of breaks and zones belong to the latest carrier. */
        void addLine(int line, int[] numbers) {
            int carrier = carrierCount - 1;
            switch (line) {
                case CARRIER_LINE:
                    copy(numbers, 0, carriers, carrierCount * CARRIER_NUMBERS, CARRIER_NUMBERS);
                    carrierCount++;
                    break;
                case BREAK_LINE:
                    copy(numbers, 0, breaks, breakStart(carrier, breakCount(carrier)), BREAK_NUMBERS);
                    store(breakCounts, carrier, breakCount(carrier) + 1);
                    break;
                case ZONES_LINE:
                    copy(numbers, 0, zones, zonesStart(carrier, zonesCount(carrier)), ZONES_NUMBERS);
                    store(zonesCounts, carrier, zonesCount(carrier) + 1);
                    break;
                case GOOD_LINE:
                    copy(numbers, 0, goods, goodCount * GOOD_NUMBERS, GOOD_NUMBERS);
                    goodCount++;
                    break;
                case ORDER_LINE:
                    place = at(numbers, 0);
                    day = at(numbers, 1);
                    break;
                default:
                    break;
            }
        }

        private static int breakStart(int carrier, int line) {
            return (carrier * BREAKS + line) * BREAK_NUMBERS;
        }

        private static int zonesStart(int carrier, int line) {
            return (carrier * ZONES + line) * ZONES_NUMBERS;
        }

        int carrierCount() {
            return carrierCount;
        }

        int goodCount() {
            return goodCount;
        }

        int place() {
            return place;
        }

        int day() {
            return day;
        }

        int breakCount(int carrier) {
            return at(breakCounts, carrier);
        }

        int zonesCount(int carrier) {
            return at(zonesCounts, carrier);
        }

        int carrierNumber(int carrier, int which) {
            return at(carriers, carrier * CARRIER_NUMBERS + which);
        }

        int breakNumber(int carrier, int line, int which) {
            return at(breaks, breakStart(carrier, line) + which);
        }

        int zonesNumber(int carrier, int line, int which) {
            return at(zones, zonesStart(carrier, line) + which);
        }

        int goodNumber(int good, int which) {
            return at(goods, good * GOOD_NUMBERS + which);
        }

        boolean hasCarrier(int carrier) {
            return carrier >= 0 && carrier < carrierCount;
        }

        boolean hasGood(int good) {
            return good >= 0 && good < goodCount;
        }

        int fullSet() {
            return (1 << goodCount) - 1;
        }

        boolean hasSet(int set) {
            return set >= 1 && set <= fullSet();
        }
    }

    /** Reads the tape into the draft, a token after the other, up to the first fault. */
    private static final class Reader {
        static final int NO_FAULT = 0;
        private static final int CANNOT_COME = 1;
        private static final int WRONG_NUMBER = 2;
        private static final int ONE_TOO_MANY = 3;

        private static final int TEXT_BYTES = 700;
        private static final int MOST_DIGITS = 3;
        private static final int LINE_NUMBERS = 6;
        private static final int NO_LINE = -1;

        private static final int NO_TOKEN = 0;
        private static final int THE_END = 1;
        private static final int WORD = 2;
        private static final int NUMBER = 3;
        private static final int SIGN = 4;

        /** By kind of line: how many numbers it has, and of each the lowest and the highest. */
        private static final int[] COUNTS = {6, 4, 5, 3, 2};
        private static final int[] LOWEST = {
            1, 1, 1, 0, 1, 0,
            1, 0, 0, 0, 0, 0,
            0, 0, 0, 0, 0, 0,
            1, 1, 1, 0, 0, 0,
            0, 0, 0, 0, 0, 0};
        private static final int[] HIGHEST = {
            99, 999, 99, 99, 999, 999,
            99, 999, 999, 999, 0, 0,
            99, 3, 3, 3, 3, 0,
            99, 999, 999, 0, 0, 0,
            3, 99, 0, 0, 0, 0};

        private final Tape tape;
        private final Book draft;
        private final int[] numbers = new int[LINE_NUMBERS];
        private int faultKind;
        private int kind;
        private int start;
        private int end;
        private int number;

        Reader(Tape tape, Book draft) {
            this.tape = tape;
            this.draft = draft;
        }

        int faultKind() {
            return faultKind;
        }

        /** How many lines, or -1 less the place of the fault. */
        int read() {
            draft.clear();
            faultKind = NO_FAULT;
            end = 0;
            int ahead = START;
            for (int lines = 0; lines <= TEXT_BYTES && ahead != ORDER_LINE; lines++) {
                int line = readLine(ahead);
                if (line == NO_LINE) {
                    return -1 - start;
                }
                ahead = line;
                if (line == ORDER_LINE && readEnd()) {
                    return lines + 1;
                }
            }
            return -1 - start;
        }

        private boolean readEnd() {
            advance();
            return (kind == THE_END && tape.size() <= TEXT_BYTES) || fails(CANNOT_COME);
        }

        private boolean fails(int why) {
            faultKind = why;
            return false;
        }

        /** The kind of the line that was read; NO_LINE with a fault at the latest token. */
        private int readLine(int ahead) {
            advance();
            int line = kind == WORD ? lineOfWord() : NO_LINE;
            if (line == NO_LINE || !mayFollow(line, ahead)) {
                faultKind = CANNOT_COME;
                return NO_LINE;
            }
            if (draft.isFull(line)) {
                faultKind = ONE_TOO_MANY;
                return NO_LINE;
            }
            for (int i = 0; i < at(COUNTS, line); i++) {
                if (!readNumber(lowest(line, i), highest(line, i))) {
                    return NO_LINE;
                }
                store(numbers, i, number);
            }
            advance();
            if (kind != SIGN) {
                faultKind = CANNOT_COME;
                return NO_LINE;
            }
            draft.addLine(line, numbers);
            return line;
        }

        private static boolean mayFollow(int line, int ahead) {
            switch (ahead) {
                case START:
                    return line == CARRIER_LINE;
                case CARRIER_LINE:
                    return line == BREAK_LINE;
                case BREAK_LINE:
                    return line == BREAK_LINE || line == ZONES_LINE;
                case ZONES_LINE:
                    return line != BREAK_LINE;
                case GOOD_LINE:
                    return line == GOOD_LINE || line == ORDER_LINE;
                default:
                    return false;
            }
        }

        private boolean readNumber(int lowest, int highest) {
            advance();
            if (kind != NUMBER) {
                return fails(CANNOT_COME);
            }
            return (number >= lowest && number <= highest) || fails(WRONG_NUMBER);
        }

        private int lowest(int line, int which) {
            int carrier = draft.carrierCount() - 1;
            int breaks = draft.breakCount(carrier);
            if (line == BREAK_LINE && which == UPTO && breaks > 0) {
                return draft.breakNumber(carrier, breaks - 1, UPTO) + 1;
            }
            int zones = draft.zonesCount(carrier);
            if (line == ZONES_LINE && which == FROM && zones > 0) {
                return draft.zonesNumber(carrier, zones - 1, FROM) + 1;
            }
            return at(LOWEST, line * LINE_NUMBERS + which);
        }

        private int highest(int line, int which) {
            if (line == ZONES_LINE && which == FROM && draft.zonesCount(draft.carrierCount() - 1) == 0) {
                return 0;
            }
            return at(HIGHEST, line * LINE_NUMBERS + which);
        }

        private int lineOfWord() {
            if (isWord("carrier")) {
                return CARRIER_LINE;
            }
            if (isWord("break")) {
                return BREAK_LINE;
            }
            if (isWord("zones")) {
                return ZONES_LINE;
            }
            if (isWord("good")) {
                return GOOD_LINE;
            }
            return isWord("order") ? ORDER_LINE : NO_LINE;
        }

        private boolean isWord(String word) {
            if (end - start != word.length()) {
                return false;
            }
            for (int i = 0; i < word.length(); i++) {
                if (tape.byteAt(start + i) != word.charAt(i)) {
                    return false;
                }
            }
            return true;
        }

        /** Tokens must begin ahead of the text's most bytes, but may go on behind them. */
        private void advance() {
            int limit = Math.min(tape.size(), TEXT_BYTES);
            start = Math.min(end, limit);
            while (start < limit && isBlank(tape.byteAt(start))) {
                start++;
            }
            end = start;
            if (start >= limit) {
                kind = THE_END;
                return;
            }
            scanRun();
            if (end == start) {
                kind = tape.byteAt(start) == ';' ? SIGN : NO_TOKEN;
                end = start + 1;
            }
        }

        private void scanRun() {
            int digits = 0;
            number = 0;
            while (end < tape.size() && (isLetter(tape.byteAt(end)) || isDigit(tape.byteAt(end)))) {
                if (isDigit(tape.byteAt(end))) {
                    digits++;
                    number = digits <= MOST_DIGITS ? number * 10 + tape.byteAt(end) - '0' : number;
                }
                end++;
            }
            if (digits == 0) {
                kind = WORD;
            } else {
                kind = digits == end - start && digits <= MOST_DIGITS ? NUMBER : NO_TOKEN;
            }
        }

        private static boolean isBlank(int sign) {
            return sign == 32 || sign == 10;
        }

        private static boolean isLetter(int sign) {
            return sign >= 'a' && sign <= 'z';
        }

        private static boolean isDigit(int sign) {
            return sign >= '0' && sign <= '9';
        }
    }

    /** Zones, rates and charges by the book; sums of all sets are kept, as splits need them all. */
    private static final class Prices {
        private static final int NO_PRICE = -1;
        private static final int NO_OFFER = -1;
        private static final int NOT_SERVED = -2;
        private static final int TOO_HEAVY = -3;
        private static final int TOO_BIG = -4;
        private static final int ABOVE_BREAKS = -5;

        private final Book book;
        private final int[] kilos = new int[SETS];
        private final int[] litres = new int[SETS];
        private final int[] longGoods = new int[CARRIERS];

        Prices(Book book) {
            this.book = book;
        }

        /** To be called whenever the book has changed. */
        void learn() {
            for (int set = 1; set <= book.fullSet(); set++) {
                int rest = set & (set - 1);
                int good = Integer.numberOfTrailingZeros(set);
                store(kilos, set, at(kilos, rest) + book.goodNumber(good, KILOS));
                store(litres, set, at(litres, rest) + book.goodNumber(good, LITRES));
            }
            for (int carrier = 0; carrier < book.carrierCount(); carrier++) {
                store(longGoods, carrier, findLongGoods(book.carrierNumber(carrier, LONG)));
            }
        }

        private int findLongGoods(int longest) {
            int found = 0;
            for (int good = 0; good < book.goodCount(); good++) {
                if (book.goodNumber(good, LENGTH) > longest) {
                    found |= 1 << good;
                }
            }
            return found;
        }

        int kilosOf(int set) {
            return at(kilos, set);
        }

        int zoneOf(int carrier, int place, int day) {
            int zone = UNSERVED;
            for (int line = 0; line < book.zonesCount(carrier); line++) {
                if (book.zonesNumber(carrier, line, FROM) <= day) {
                    zone = book.zonesNumber(carrier, line, FIRST_ZONE + place);
                }
            }
            return zone;
        }

        /** The zones of all carriers in one number, two bits each. */
        int zonesAt(int place, int day) {
            int zones = 0;
            for (int carrier = 0; carrier < book.carrierCount(); carrier++) {
                zones |= zoneOf(carrier, place, day) << 2 * carrier;
            }
            return zones;
        }

        static int zoneIn(int zones, int carrier) {
            return zones >> 2 * carrier & 3;
        }

        /** NO_PRICE: not served, or billed above all breaks. */
        int priceOf(int carrier, int zone, int billed) {
            int least = NO_PRICE;
            if (zone == UNSERVED) {
                return least;
            }
            for (int line = 0; line < book.breakCount(carrier); line++) {
                int price = book.breakNumber(carrier, line, FIRST_PRICE + zone);
                if (book.breakNumber(carrier, line, UPTO) >= billed && (least < 0 || price < least)) {
                    least = price;
                }
            }
            return least;
        }

        int billedKilos(int set, int carrier, int weight) {
            return Math.max(weight, divideUp(at(litres, set), book.carrierNumber(carrier, BY)));
        }

        int chargeOf(int set, int carrier, int zone, int weight) {
            if (zone == UNSERVED) {
                return NOT_SERVED;
            }
            if (weight > book.carrierNumber(carrier, MOST)) {
                return TOO_HEAVY;
            }
            if (at(litres, set) > book.carrierNumber(carrier, ROOM)) {
                return TOO_BIG;
            }
            int price = priceOf(carrier, zone, billedKilos(set, carrier, weight));
            if (price < 0) {
                return ABOVE_BREAKS;
            }
            int longOnes = Integer.bitCount(set & at(longGoods, carrier));
            int together = price + longOnes * book.carrierNumber(carrier, EXTRA);
            return together + together * book.carrierNumber(carrier, FUEL) / 100;
        }

        /** A charge and its carrier in one number, so that of like charges the first carrier's is the least. */
        int leastOffer(int set, int zones) {
            int least = NO_OFFER;
            for (int carrier = 0; carrier < book.carrierCount(); carrier++) {
                int charge = chargeOf(set, carrier, zoneIn(zones, carrier), kilosOf(set));
                int offer = charge * CARRIERS + carrier;
                if (charge >= 0 && (least < 0 || offer < least)) {
                    least = offer;
                }
            }
            return least;
        }

        static int chargeOfOffer(int offer) {
            return offer / CARRIERS;
        }

        static int carrierOfOffer(int offer) {
            return offer % CARRIERS;
        }

        int boundBy(int carrier, int zone, int weight) {
            int least = NO_PRICE;
            for (int line = 0; line < book.breakCount(carrier); line++) {
                int price = book.breakNumber(carrier, line, FIRST_PRICE + zone);
                int own = divideUp(weight * price, book.breakNumber(carrier, line, UPTO));
                least = least < 0 || own < least ? own : least;
            }
            return least;
        }

        /** Divisors of a book are 1 at least; the test only keeps the machine from throwing. */
        private static int divideUp(int number, int divisor) {
            return divisor < 1 ? 0 : (number + divisor - 1) / divisor;
        }
    }

    /**
     * Finds the split of least charge, and of like ones the one with the least row.
     * A row is one long with a digit for each good, good 0 the highest, so that
     * comparing the longs compares the rows.
     */
    private static final class Splitter {
        private static final int UNKNOWN = -1;
        private static final int NO_SPLIT = -2;
        private static final int ZONE_KEYS = 64;
        private static final int DIGIT_BITS = 5;
        private static final int DIGIT_MASK = 31;

        private final Book book;
        private final Prices prices;
        /** By the zones of the carriers, as nothing else of an order counts. */
        private final int[] leastByZones = new int[ZONE_KEYS];
        private final long[] rowByZones = new long[ZONE_KEYS];
        /** By sets, while one solution is made. */
        private final int[] offers = new int[SETS];
        private final int[] least = new int[SETS];
        private final long[] row = new long[SETS];
        /** By sets: a 1 in the digit of each of its goods. */
        private final long[] ones = new long[SETS];

        Splitter(Book book, Prices prices) {
            this.book = book;
            this.prices = prices;
            for (int set = 1; set < SETS; set++) {
                int good = Integer.numberOfTrailingZeros(set);
                ones[set] = ones[set & (set - 1)] + (1L << shiftOf(good));
            }
        }

        void forget() {
            Arrays.fill(leastByZones, UNKNOWN);
        }

        static int parcelIn(long row, int good) {
            return digitIn(row, good) / CARRIERS;
        }

        static int carrierIn(long row, int good) {
            return digitIn(row, good) % CARRIERS;
        }

        private static int digitIn(long row, int good) {
            return (int) (row >> shiftOf(good)) & DIGIT_MASK;
        }

        private static int shiftOf(int good) {
            return DIGIT_BITS * (GOODS - 1 - good);
        }

        /** NO_SPLIT, if there is none. */
        int leastCharge(int place, int day) {
            int zones = prices.zonesAt(place, day);
            if (at(leastByZones, zones) == UNKNOWN) {
                solve(zones);
            }
            return at(leastByZones, zones);
        }

        /** Of a place and day whose leastCharge was asked for and is there. */
        long leastRow(int place, int day) {
            int zones = prices.zonesAt(place, day);
            return zones >= 0 && zones < rowByZones.length ? rowByZones[zones] : 0;
        }

        /** The rest of a split never has good 0, so of the sets with it the full one is enough. */
        private void solve(int zones) {
            int full = book.fullSet();
            least[0] = 0;
            row[0] = 0;
            for (int set = 1; set <= full; set++) {
                store(offers, set, prices.leastOffer(set, zones));
            }
            for (int set = 2; set < full; set += 2) {
                splitSet(set);
            }
            splitSet(full);
            if (zones >= 0 && zones < ZONE_KEYS) {
                leastByZones[zones] = at(least, full);
                rowByZones[zones] = rowOf(full);
            }
        }

        /** The first parcel has the set's first good and, in turn, each choice of the others. */
        private void splitSet(int set) {
            if (set < 1 || set >= SETS) {
                return;
            }
            int first = set & -set;
            int others = set ^ first;
            least[set] = NO_SPLIT;
            row[set] = 0;
            tryParcel(set, first);
            for (int more = others; more > 0; more = (more - 1) & others) {
                tryParcel(set, first | more);
            }
        }

        private void tryParcel(int set, int parcel) {
            int rest = set ^ parcel;
            int offer = at(offers, parcel);
            int restCharge = at(least, rest);
            if (offer < 0 || restCharge < 0 || set < 1 || set >= SETS) {
                return;
            }
            int sum = Prices.chargeOfOffer(offer) + restCharge;
            if (least[set] >= 0 && sum > least[set]) {
                return;
            }
            long tried = Prices.carrierOfOffer(offer) * onesOf(parcel) + rowOf(rest) + CARRIERS * onesOf(rest);
            if (least[set] < 0 || sum < least[set] || tried < row[set]) {
                least[set] = sum;
                row[set] = tried;
            }
        }

        private long rowOf(int set) {
            return set >= 0 && set < row.length ? row[set] : 0;
        }

        private long onesOf(int set) {
            return set >= 0 && set < ones.length ? ones[set] : 0;
        }
    }

    /** The plan and the order, and how they stood ahead of the latest acts. */
    private static final class Plan {
        private static final int CARRIER_START = GOODS;
        private static final int CLAIM_START = CARRIER_START + PARCELS;
        private static final int PLACE = CLAIM_START + PARCELS;
        private static final int DAY = PLACE + 1;
        private static final int NUMBERS = DAY + 1;
        private static final int MOST_KEPT = 10;

        /** Of each good its parcel, of each parcel its carrier and claim, place and day. */
        private final int[] state = new int[NUMBERS];
        private final int[] earlier = new int[MOST_KEPT * NUMBERS];
        private int next;
        private int kept;

        void begin(int place, int day) {
            unpack();
            setOrder(place, day);
            next = 0;
            kept = 0;
        }

        void unpack() {
            for (int good = 0; good < GOODS; good++) {
                state[good] = NONE;
            }
            for (int parcel = 0; parcel < PARCELS; parcel++) {
                setCarrier(parcel, 0);
                setClaimed(parcel, 0);
            }
        }

        void keep() {
            copy(state, 0, earlier, next * NUMBERS, NUMBERS);
            next = (next + 1) % MOST_KEPT;
            kept = Math.min(kept + 1, MOST_KEPT);
        }

        boolean goBack() {
            if (kept < 1) {
                return false;
            }
            next = (next + MOST_KEPT - 1) % MOST_KEPT;
            kept--;
            copy(earlier, next * NUMBERS, state, 0, NUMBERS);
            return true;
        }

        int keptCount() {
            return kept;
        }

        int place() {
            return state[PLACE];
        }

        int day() {
            return state[DAY];
        }

        void setOrder(int place, int day) {
            state[PLACE] = place;
            state[DAY] = day;
        }

        int parcelOf(int good) {
            return at(state, good);
        }

        int carrierOf(int parcel) {
            return at(state, CARRIER_START + parcel);
        }

        void setCarrier(int parcel, int carrier) {
            store(state, CARRIER_START + parcel, carrier);
        }

        int claimedOf(int parcel) {
            return at(state, CLAIM_START + parcel);
        }

        void setClaimed(int parcel, int kilos) {
            store(state, CLAIM_START + parcel, kilos);
        }

        /** A parcel that loses its last good loses its claim, too. */
        void moveGood(int good, int parcel) {
            int before = parcelOf(good);
            store(state, good, parcel);
            if (before != NONE && goodsIn(before) == 0) {
                setClaimed(before, 0);
            }
        }

        int goodsIn(int parcel) {
            int goods = 0;
            for (int good = 0; good < GOODS; good++) {
                if (parcelOf(good) == parcel) {
                    goods |= 1 << good;
                }
            }
            return goods;
        }

        int packedGoods() {
            return (1 << GOODS) - 1 & ~goodsIn(NONE);
        }

        int filledParcels() {
            int parcels = 0;
            for (int good = 0; good < GOODS; good++) {
                if (parcelOf(good) != NONE) {
                    parcels |= 1 << parcelOf(good);
                }
            }
            return parcels;
        }
    }
}
