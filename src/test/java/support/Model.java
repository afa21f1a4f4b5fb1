import java.util.ArrayDeque;
import java.util.ArrayList;
import java.util.Arrays;
import java.util.Deque;
import java.util.List;
import java.util.regex.Matcher;
import java.util.regex.Pattern;

/**
 * The document once more, as plainly as it can be said: all splits are tried one by one,
 * texts are read by a list of tokens. It shares nothing with the class that it is held against.
 */
final class Model {
    private static final class Fault extends RuntimeException {
        private static final long serialVersionUID = 1L;
        final int kind;
        final int place;

        Fault(int kind, int place) {
            super(null, null, false, false);
            this.kind = kind;
            this.place = place;
        }
    }

    private record Token(String sign, int place) {
        boolean is(String word) {
            return sign.equals(word);
        }
    }

    private record Good(int kilos, int litres, int length) { }

    private static final class Carrier {
        int[] terms;
        final List<int[]> breaks = new ArrayList<>();
        final List<int[]> zones = new ArrayList<>();
    }

    private record Order(int place, int day) { }

    private record Shipped(int[] parcels, int[] carriers, int[] claims, Order order) {
        Shipped copy() {
            return new Shipped(parcels.clone(), carriers.clone(), claims.clone(), order);
        }
    }

    private static final class Text {
        final List<Carrier> carriers = new ArrayList<>();
        final List<Good> goods = new ArrayList<>();
        Order order = new Order(0, 0);
        int lines;
    }

    private String tape = "";
    private Text told = new Text();
    private Shipped plan;
    private final Deque<Shipped> acts = new ArrayDeque<>();
    private int fault;

    Model() {
        Carrier first = new Carrier();
        first.terms = new int[] {99, 999, 99, 0, 999, 0};
        first.breaks.add(new int[] {99, 0, 0, 0});
        first.zones.add(new int[] {0, 0, 0, 0, 0});
        told.carriers.add(first);
        begin();
    }

    private void begin() {
        int[] parcels = new int[8];
        Arrays.fill(parcels, -1);
        plan = new Shipped(parcels, new int[8], new int[8], told.order);
        acts.clear();
    }

    // ---- the tape and its text

    int feed(int... numbers) {
        if (tape.length() > 720) {
            return -1;
        }
        StringBuilder more = new StringBuilder(tape);
        for (int n : numbers) {
            more.append((char) (n >>> 24)).append((char) (n >>> 16 & 255));
            more.append((char) (n >>> 8 & 255)).append((char) (n & 255));
        }
        tape = more.toString();
        return tape.length();
    }

    boolean end(int n) {
        if (n < 0 || n > tape.length()) {
            return false;
        }
        tape = tape.substring(0, n);
        return true;
    }

    int text() {
        String all = tape;
        tape = "";
        try {
            Text read = parse(tokens(all), all.length());
            fault = 0;
            told = read;
            begin();
            return read.lines;
        } catch (Fault f) {
            fault = f.kind;
            return -1 - f.place;
        }
    }

    int fault() {
        return fault;
    }

    private static Deque<Token> tokens(String all) {
        Deque<Token> tokens = new ArrayDeque<>();
        Matcher m = Pattern.compile("[a-z0-9]+|[^ \n]", Pattern.DOTALL).matcher(all);
        while (m.find()) {
            if (m.start() < 700) {
                tokens.add(new Token(m.group(), m.start()));
            }
        }
        tokens.add(new Token("", Math.min(700, all.length())));
        return tokens;
    }

    private static Text parse(Deque<Token> tokens, int bytes) {
        Text text = new Text();
        if (!tokens.peek().is("carrier")) {
            throw new Fault(1, tokens.peek().place());
        }
        while (tokens.peek().is("carrier")) {
            room(text.carriers.size() < 3, tokens.remove());
            text.carriers.add(carrier(tokens, text));
        }
        while (tokens.peek().is("good")) {
            room(text.goods.size() < 8, tokens.remove());
            text.goods.add(new Good(number(tokens, 1, 99), number(tokens, 1, 999), number(tokens, 1, 999)));
            word(tokens, ";");
            text.lines++;
        }
        word(tokens, "order");
        text.order = new Order(number(tokens, 0, 3), number(tokens, 0, 99));
        word(tokens, ";");
        text.lines++;
        if (tokens.size() > 1 || bytes > 700) {
            throw new Fault(1, tokens.peek().place());
        }
        return text;
    }

    private static Carrier carrier(Deque<Token> tokens, Text text) {
        Carrier carrier = new Carrier();
        carrier.terms = new int[] {number(tokens, 1, 99), number(tokens, 1, 999), number(tokens, 1, 99),
            number(tokens, 0, 99), number(tokens, 1, 999), number(tokens, 0, 999)};
        word(tokens, ";");
        text.lines++;
        int above = 0;
        do {
            if (!tokens.peek().is("break")) {
                throw new Fault(1, tokens.peek().place());
            }
            room(carrier.breaks.size() < 5, tokens.remove());
            int upto = number(tokens, above + 1, 99);
            carrier.breaks.add(new int[] {upto, number(tokens, 0, 999), number(tokens, 0, 999), number(tokens, 0, 999)});
            above = upto;
            word(tokens, ";");
            text.lines++;
        } while (!tokens.peek().is("zones"));
        above = -1;
        while (tokens.peek().is("zones")) {
            room(carrier.zones.size() < 3, tokens.remove());
            int from = number(tokens, above + 1, carrier.zones.isEmpty() ? 0 : 99);
            carrier.zones.add(new int[] {from, number(tokens, 0, 3), number(tokens, 0, 3), number(tokens, 0, 3),
                number(tokens, 0, 3)});
            above = from;
            word(tokens, ";");
            text.lines++;
        }
        return carrier;
    }

    private static void room(boolean there, Token token) {
        if (!there) {
            throw new Fault(3, token.place());
        }
    }

    private static void word(Deque<Token> tokens, String word) {
        Token token = tokens.peek();
        if (!token.is(word)) {
            throw new Fault(1, token.place());
        }
        tokens.remove();
    }

    private static int number(Deque<Token> tokens, int lowest, int highest) {
        Token token = tokens.peek();
        if (!token.sign().matches("[0-9]{1,3}")) {
            throw new Fault(1, token.place());
        }
        int n = Integer.parseInt(token.sign());
        if (n < lowest || n > highest) {
            throw new Fault(2, token.place());
        }
        tokens.remove();
        return n;
    }

    // ---- what is asked for

    int now(int what) {
        int packed = 0;
        int filled = 0;
        for (int g = 0; g < told.goods.size(); g++) {
            if (plan.parcels()[g] >= 0) {
                packed |= 1 << g;
                filled |= 1 << plan.parcels()[g];
            }
        }
        int[] all = {told.carriers.size(), told.goods.size(), plan.order().place(), plan.order().day(), packed, filled,
            acts.size(), tape.length()};
        return what >= 0 && what < all.length ? all[what] : -1;
    }

    int good(int good, int what) {
        if (good < 0 || good >= told.goods.size() || what < 0 || what > 3) {
            return Check.THROWS;
        }
        Good g = told.goods.get(good);
        return new int[] {g.kilos(), g.litres(), g.length(), plan.parcels()[good]}[what];
    }

    private boolean isCarrier(int carrier) {
        return carrier >= 0 && carrier < told.carriers.size();
    }

    private List<Good> set(int bits) {
        List<Good> set = new ArrayList<>();
        for (int g = 0; g < told.goods.size(); g++) {
            if ((bits >> g & 1) == 1) {
                set.add(told.goods.get(g));
            }
        }
        return set;
    }

    private boolean isSet(int bits) {
        return bits != 0 && bits >>> told.goods.size() == 0;
    }

    private static int kilos(List<Good> set) {
        return set.stream().mapToInt(Good::kilos).sum();
    }

    private int zone(int carrier, Order order) {
        int zone = -1;
        for (int[] line : told.carriers.get(carrier).zones) {
            if (line[0] <= order.day()) {
                zone = line[1 + order.place()];
            }
        }
        return zone;
    }

    int zone(int carrier) {
        return isCarrier(carrier) ? zone(carrier, plan.order()) : -1;
    }

    private int rate(int carrier, int billed, Order order) {
        int zone = zone(carrier, order);
        if (zone == 3) {
            return -2;
        }
        return told.carriers.get(carrier).breaks.stream().filter(b -> b[0] >= billed).mapToInt(b -> b[1 + zone])
            .min().orElse(-2);
    }

    int rate(int carrier, int billed) {
        return isCarrier(carrier) && billed >= 1 && billed <= 999 ? rate(carrier, billed, plan.order()) : -1;
    }

    private int billed(List<Good> set, int kilos, int carrier) {
        int litres = set.stream().mapToInt(Good::litres).sum();
        int by = told.carriers.get(carrier).terms[2];
        int whole = litres / by;
        if (litres % by > 0) {
            whole++;
        }
        return whole > kilos ? whole : kilos;
    }

    int billed(int goods, int carrier) {
        return isSet(goods) && isCarrier(carrier) ? billed(set(goods), kilos(set(goods)), carrier) : -1;
    }

    private int charge(List<Good> set, int kilos, int carrier, Order order) {
        int[] terms = told.carriers.get(carrier).terms;
        if (zone(carrier, order) == 3) {
            return -2;
        }
        if (kilos > terms[0]) {
            return -3;
        }
        if (set.stream().mapToInt(Good::litres).sum() > terms[1]) {
            return -4;
        }
        int rate = rate(carrier, billed(set, kilos, carrier), order);
        if (rate < 0) {
            return -5;
        }
        for (Good g : set) {
            rate += g.length() > terms[4] ? terms[5] : 0;
        }
        return rate + rate * terms[3] / 100;
    }

    int charge(int goods, int carrier) {
        if (!isSet(goods) || !isCarrier(carrier)) {
            return -1;
        }
        return charge(set(goods), kilos(set(goods)), carrier, plan.order());
    }

    int cheapest(int goods) {
        if (!isSet(goods)) {
            return -1;
        }
        int best = -2;
        for (int c = told.carriers.size() - 1; c >= 0; c--) {
            int own = charge(goods, c);
            if (own >= 0 && (best < 0 || own <= charge(goods, best))) {
                best = c;
            }
        }
        return best;
    }

    /** All splits in the order of their rows: the first of the least charge is the one. */
    private final class Trial {
        final Order order;
        final int[] parcels = new int[8];
        final int[] carriers = new int[8];
        final int[] charges;
        int least = -2;
        int[] leastParcels;
        int[] leastCarriers;

        Trial(Order order) {
            this.order = order;
            charges = new int[256 * 3];
            for (int bits = 1; bits < 1 << told.goods.size(); bits++) {
                for (int c = 0; c < told.carriers.size(); c++) {
                    charges[bits * 3 + c] = charge(set(bits), kilos(set(bits)), c, order);
                }
            }
            place(0, 0);
        }

        private void place(int good, int used) {
            if (good == told.goods.size()) {
                weigh(used);
                return;
            }
            for (int p = 0; p < used; p++) {
                parcels[good] = p;
                place(good + 1, used);
            }
            for (int c = 0; c < told.carriers.size(); c++) {
                parcels[good] = used;
                carriers[used] = c;
                place(good + 1, used + 1);
            }
        }

        private void weigh(int used) {
            int[] bits = new int[used];
            for (int g = 0; g < told.goods.size(); g++) {
                bits[parcels[g]] |= 1 << g;
            }
            int sum = 0;
            for (int p = 0; p < used; p++) {
                int own = charges[bits[p] * 3 + carriers[p]];
                if (own < 0) {
                    return;
                }
                sum += own;
            }
            if (least < 0 || sum < least) {
                least = sum;
                leastParcels = parcels.clone();
                leastCarriers = carriers.clone();
            }
        }
    }

    private Trial trial;
    private Text trialText;

    private Trial trial(Order order) {
        if (trial == null || trialText != told || !trial.order.equals(order)) {
            trial = new Trial(order);
            trialText = told;
        }
        return trial;
    }

    int least() {
        return trial(plan.order()).least;
    }

    int split(int good, int what) {
        if (good < 0 || good >= told.goods.size() || what < 0 || what > 1) {
            return -1;
        }
        Trial t = trial(plan.order());
        if (t.least < 0) {
            return -2;
        }
        return what == 0 ? t.leastParcels[good] : t.leastCarriers[t.leastParcels[good]];
    }

    int bound() {
        long p = -1;
        long upto = 1;
        for (int c = 0; c < told.carriers.size(); c++) {
            int zone = zone(c, plan.order());
            for (int[] line : told.carriers.get(c).breaks) {
                if (zone != 3 && (p < 0 || line[1 + zone] * upto < p * line[0])) {
                    p = line[1 + zone];
                    upto = line[0];
                }
            }
        }
        return p < 0 ? -2 : (int) Math.ceil((double) (kilos(told.goods) * p) / upto - 1e-9);
    }

    int gap() {
        return least() < 0 || bound() < 0 ? -1 : least() - bound();
    }

    private int bits(int parcel) {
        int bits = 0;
        for (int g = 0; g < told.goods.size(); g++) {
            bits |= plan.parcels()[g] == parcel ? 1 << g : 0;
        }
        return bits;
    }

    int parcel(int parcel, int what) {
        if (parcel < 0 || parcel > 7 || what < 0 || what > 4) {
            return -100;
        }
        int claim = plan.claims()[parcel];
        List<Good> set = set(bits(parcel));
        switch (what) {
            case 0:
                return bits(parcel);
            case 1:
                return plan.carriers()[parcel];
            case 2:
                return claim > 0 ? claim : -1;
            default:
                if (set.isEmpty()) {
                    return 0;
                }
                int kilos = what == 4 && claim > 0 ? claim : kilos(set);
                return charge(set, kilos, plan.carriers()[parcel], plan.order());
        }
    }

    int total(int what) {
        if (what != 0 && what != 1) {
            return -1;
        }
        int sum = 0;
        for (int p = 0; p < 8; p++) {
            int own = parcel(p, 3 + what);
            if (own < 0) {
                return -2;
            }
            sum += own;
        }
        return sum;
    }

    private static boolean isOrder(int place, int day) {
        return place >= 0 && place <= 3 && day >= 0 && day <= 99;
    }

    int would(int place, int day) {
        return isOrder(place, day) ? trial(new Order(place, day)).least : -1;
    }

    // ---- what is done

    private void act(Shipped after) {
        acts.push(plan);
        if (acts.size() > 10) {
            acts.removeLast();
        }
        plan = after;
        for (int p = 0; p < 8; p++) {
            if (bits(p) == 0) {
                plan.claims()[p] = 0;
            }
        }
    }

    int put(int good, int parcel) {
        if (good < 0 || good >= told.goods.size() || parcel < -1 || parcel > 7) {
            return -3;
        }
        int was = plan.parcels()[good];
        if (was == parcel) {
            return -2;
        }
        Shipped after = plan.copy();
        after.parcels()[good] = parcel;
        act(after);
        return was;
    }

    int by(int parcel, int carrier) {
        if (parcel < 0 || parcel > 7 || !isCarrier(carrier)) {
            return -1;
        }
        int was = plan.carriers()[parcel];
        Shipped after = plan.copy();
        after.carriers()[parcel] = carrier;
        act(after);
        return was;
    }

    int take() {
        Trial t = trial(plan.order());
        if (t.least < 0) {
            return -2;
        }
        int[] parcels = new int[8];
        Arrays.fill(parcels, -1);
        Shipped after = new Shipped(parcels, new int[8], new int[8], plan.order());
        int count = 0;
        for (int g = 0; g < told.goods.size(); g++) {
            int p = t.leastParcels[g];
            parcels[g] = p;
            after.carriers()[p] = t.leastCarriers[p];
            count = Math.max(count, p + 1);
        }
        act(after);
        return count;
    }

    int claim(int parcel, int kilos) {
        if (parcel < 0 || parcel > 7 || kilos < 0 || kilos > 99 || bits(parcel) == 0) {
            return -1;
        }
        int was = plan.claims()[parcel];
        Shipped after = plan.copy();
        after.claims()[parcel] = kilos;
        act(after);
        return was;
    }

    boolean order(int place, int day) {
        if (!isOrder(place, day)) {
            return false;
        }
        Shipped copy = plan.copy();
        act(new Shipped(copy.parcels(), copy.carriers(), copy.claims(), new Order(place, day)));
        return true;
    }

    int undo() {
        if (acts.isEmpty()) {
            return -1;
        }
        plan = acts.pop();
        return acts.size();
    }
}
