/** The boundary cases of promises 20 to 25, and of a new text: what is done and undone. */
final class ActBoundaries {
    private static final int LEAST_INT = Integer.MIN_VALUE;
    private static final int MOST_INT = Integer.MAX_VALUE;
    private static final String GOOD = Texts.GOOD;
    private static final String THREE = "carrier 1 9 9 0 9 0;break 9 6 6 6;zones 0 0 1 2 3;"
        + "carrier 1 9 9 0 9 0;break 9 5 5 5;zones 0 0 1 2 3;carrier 1 9 9 0 9 0;break 9 4 4 4;zones 0 0 1 2 3;";
    /** As many carriers and goods as there can be; the least split has each good alone by the third carrier. */
    private static final String ALL = THREE + GOOD.repeat(8) + "order 0 0;";
    private static final String TOGETHER = "carrier 9 9 9 0 9 0;break 9 4 4 4;zones 0 0 1 2 3;" + GOOD.repeat(8) + "order 0 0;";
    private static final String NO_GOODS = THREE + "order 0 0;";

    private final Check check;

    ActBoundaries(Check check) {
        this.check = check;
    }

    void run() {
        put();
        noSuchPut();
        by();
        take();
        takeChangesAll();
        takeWithoutSplit();
        claim();
        claimGoesWithTheGoods();
        order();
        undoOfNone();
        tenAtMost();
        allIsKeptOfTen();
        eachKindAsTheEleventh();
        actsBehindUndo();
        actsThatLeaveAllAsItWas();
        newText();
        newTextWithLess();
    }

    private void due(String what, long got, long want) {
        check.due(what, got, want);
    }

    // ---- promise 20

    private void put() {
        check.about(20, "A GOOD comes into a PARCEL (NONE: into none): where it was. -2: it is there");
        ParcelSplit split = Check.made(ALL);
        for (int g : new int[] {0, 7}) {
            due("into none, where it is", split.put(g, -1), -2);
            due("into the first", split.put(g, 0), -1);
            due("into the first again", split.put(g, 0), -2);
            due("into the last", split.put(g, 7), 0);
            due("into the last again", split.put(g, 7), -2);
            due("its parcel", Check.good(split, g, 3), 7);
            due("into none", split.put(g, -1), 7);
            due("into none again", split.put(g, -1), -2);
            due("its parcel behind that", Check.good(split, g, 3), -1);
        }
        due("what was refused can't be undone", split.now(6), 6);
        ParcelSplit full = Check.made(ALL);
        for (int p = 0; p < 8; p++) {
            full.by(p, 2);
        }
        for (int g = 0; g < 8; g++) {
            due("all into one", full.put(g, 3), -1);
        }
        due("one parcel has all", full.parcel(3, 0), 255);
        for (int p = 0; p < 8; p++) {
            due("the last of all changes no carrier", full.parcel(p, 1), 2);
        }
        due("no other has one", full.now(5), 8);
        for (int g = 7; g >= 0; g--) {
            due("all into none", full.put(g, -1), 3);
        }
        due("it is empty", full.parcel(3, 0), 0);
        due("no parcel has one", full.now(5), 0);
    }

    private void noSuchPut() {
        check.about(20, "-3 (first): no such ones.");
        ParcelSplit split = Check.made(ALL);
        for (int g : new int[] {8, -1, LEAST_INT, MOST_INT}) {
            for (int p : new int[] {-1, 0, 7, 8}) {
                due("put(" + g + ", " + p + ")", split.put(g, p), -3);
            }
        }
        for (int p : new int[] {8, -2, LEAST_INT, MOST_INT}) {
            due("put(0, " + p + ")", split.put(0, p), -3);
            due("put(7, " + p + ")", split.put(7, p), -3);
        }
        due("none was done", split.now(6), 0);
        due("no good is in a parcel", split.now(4), 0);
        for (int goods = 0; goods < 8; goods++) {
            ParcelSplit some = Check.made(THREE + GOOD.repeat(goods) + "order 0 0;");
            due("put of one more than " + goods, some.put(goods, 0), -3);
            due("the last of " + goods, some.put(goods - 1, 0), goods == 0 ? -3 : -1);
        }
    }

    // ---- promise 21

    private void by() {
        check.about(21, "A PARCEL goes by a CARRIER: by which it did. NONE: no such ones.");
        ParcelSplit split = Check.made(ALL);
        for (int p : new int[] {0, 7}) {
            due("by the last", split.by(p, 2), 0);
            due("by the first", split.by(p, 0), 2);
            due("by the first again", split.by(p, 0), 0);
            due("by the second", split.by(p, 1), 0);
        }
        for (int p = 0; p < 8; p++) {
            due("carrier of " + p, split.parcel(p, 1), p == 0 || p == 7 ? 1 : 0);
        }
        for (int p : new int[] {8, -1, LEAST_INT, MOST_INT}) {
            due("by(" + p + ", 0)", split.by(p, 0), -1);
            due("by(" + p + ", 3)", split.by(p, 3), -1);
        }
        for (int c : new int[] {3, -1, LEAST_INT, MOST_INT}) {
            due("by(0, " + c + ")", split.by(0, c), -1);
            due("by(7, " + c + ")", split.by(7, c), -1);
        }
        due("eight were done", split.now(6), 8);
        due("by(0, 1) of one carrier", Check.made(TOGETHER).by(0, 1), -1);
        ParcelSplit none = Check.made(NO_GOODS);
        due("without goods", none.by(7, 2), 0);
        due("without goods it stays", none.parcel(7, 1), 2);
        split.put(0, 7);
        due("with a good", split.by(7, 2), 1);
        due("its charge", split.parcel(7, 3), 4);
        split.put(0, -1);
        due("a parcel that is empty again keeps it", split.parcel(7, 1), 2);
    }

    // ---- promise 22

    private void take() {
        check.about(22, "The PLAN is the LEAST SPLIT (PARCELS without GOODS by CARRIER 0, nothing CLAIMED): how many PARCELS.");
        ParcelSplit none = Check.made(NO_GOODS);
        none.by(5, 2);
        due("without goods", none.take(), 0);
        due("without goods all go by 0", none.parcel(5, 1), 0);
        due("it was done", none.now(6), 2);
        due("it is undone", none.undo(), 1);
        due("so it goes by 2", none.parcel(5, 1), 2);
        none.order(3, 0);
        due("without goods, where none serves", none.take(), 0);
        due("one good", Check.made(THREE + GOOD + "order 0 0;").take(), 1);
        ParcelSplit eight = Check.made(ALL);
        due("eight goods, each alone", eight.take(), 8);
        for (int g = 0; g < 8; g++) {
            due("its parcel", Check.good(eight, g, 3), g);
            due("its carrier", eight.parcel(g, 1), 2);
        }
        due("PARCELS with GOODS", eight.now(5), 255);
        due("its total", eight.total(0), 32);
        ParcelSplit one = Check.made(TOGETHER);
        due("eight goods in one", one.take(), 1);
        due("it has all", one.parcel(0, 0), 255);
        due("PARCELS with GOODS of one", one.now(5), 1);
    }

    private void takeChangesAll() {
        check.about(22, "PARCELS without GOODS by CARRIER 0, nothing CLAIMED");
        ParcelSplit split = Check.made(THREE.replace("carrier 1 ", "carrier 4 ") + GOOD.repeat(8) + "order 0 0;");
        for (int g = 0; g < 8; g++) {
            split.put(g, g);
            split.by(g, 1);
        }
        split.claim(0, 99);
        split.claim(7, 1);
        due("take", split.take(), 2);
        for (int p = 0; p < 8; p++) {
            due("goods of " + p, split.parcel(p, 0), p == 0 ? 15 : p == 1 ? 240 : 0);
            due("carrier of " + p, split.parcel(p, 1), p < 2 ? 2 : 0);
            due("claim of " + p, split.parcel(p, 2), -1);
        }
        due("take again", split.take(), 2);
        due("it is undone", split.undo(), 9);
        due("both are undone", split.undo(), 8);
        for (int p = 0; p < 8; p++) {
            due("goods of " + p + " again", split.parcel(p, 0), 1 << p);
            due("carrier of " + p + " again", split.parcel(p, 1), 1);
            due("claim of " + p + " again", split.parcel(p, 2), p == 0 ? 99 : p == 7 ? 1 : -1);
        }
    }

    private void takeWithoutSplit() {
        check.about(22, "-2: there is no SPLIT.");
        ParcelSplit heavy = Check.made(THREE + "good 1 1 1;good 2 1 1;order 0 0;");
        heavy.put(0, 5);
        heavy.by(5, 1);
        heavy.claim(5, 7);
        due("one good is too heavy", heavy.take(), -2);
        due("goods stay", heavy.parcel(5, 0), 1);
        due("the carrier stays", heavy.parcel(5, 1), 1);
        due("the claim stays", heavy.parcel(5, 2), 7);
        due("it was not done", heavy.now(6), 3);
        ParcelSplit far = Check.made(ALL.replace("order 0", "order 3"));
        due("none serves", far.take(), -2);
        due("none serves: it was not done", far.now(6), 0);
        due("none serves: no good is in a parcel", far.now(4), 0);
    }

    // ---- promise 23

    private void claim() {
        check.about(23, "KILOS (1 to 99; 0: none) of a PARCEL with GOODS are CLAIMED: what they were (0: none).");
        ParcelSplit split = Check.made(ALL);
        split.put(0, 0);
        split.put(7, 7);
        for (int p : new int[] {0, 7}) {
            due("1", split.claim(p, 1), 0);
            due("99", split.claim(p, 99), 1);
            due("it is claimed", split.parcel(p, 2), 99);
            due("none", split.claim(p, 0), 99);
            due("none is claimed", split.parcel(p, 2), -1);
            due("none again", split.claim(p, 0), 0);
        }
        due("all were done", split.now(6), 10);
        check.about(23, "NONE: no such ones, it has no GOODS.");
        split.claim(0, 50);
        for (int k : new int[] {100, -1, LEAST_INT, MOST_INT}) {
            due("claim(0, " + k + ")", split.claim(0, k), -1);
        }
        due("what was claimed stays", split.parcel(0, 2), 50);
        for (int p : new int[] {8, -1, LEAST_INT, MOST_INT}) {
            for (int k : new int[] {-1, 0, 1, 99}) {
                due("claim(" + p + ", " + k + ")", split.claim(p, k), -1);
            }
        }
        for (int p = 1; p < 7; p++) {
            for (int k : new int[] {0, 1, 99}) {
                due("claim(" + p + ", " + k + ") without goods", split.claim(p, k), -1);
            }
        }
        ParcelSplit empty = Check.made(ALL);
        due("claim without goods", empty.claim(0, 1), -1);
        due("it was not done", empty.now(6), 0);
        due("nothing is claimed", empty.parcel(0, 2), -1);
    }

    private void claimGoesWithTheGoods() {
        check.about(23, "none at first, and as soon as it has no GOODS");
        for (int to : new int[] {-1, 5}) {
            ParcelSplit split = Check.made(ALL);
            split.put(0, 7);
            split.put(7, 7);
            split.claim(7, 9);
            split.put(0, to);
            due("one good is left", split.parcel(7, 2), 9);
            split.put(7, to);
            due("none is left", split.parcel(7, 2), -1);
            split.put(0, 7);
            due("one came back", split.parcel(7, 2), -1);
            due("what was claimed is none", split.claim(7, 3), 0);
            due("undo of the claim, the last of seven acts", split.undo(), 6);
            due("undo of its coming back", split.undo(), 5);
            due("undo of the last one's going", split.undo(), 4);
            due("the claim is there again", split.parcel(7, 2), 9);
            due("it goes no further", split.parcel(5, 2), -1);
        }
        ParcelSplit other = Check.made(ALL);
        other.put(0, 0);
        other.put(1, 1);
        other.claim(0, 4);
        other.claim(1, 5);
        other.put(0, 1);
        due("a good that comes brings no claim", other.parcel(1, 2), 5);
        due("and leaves none", other.parcel(0, 2), -1);
    }

    // ---- promise 24

    private void order() {
        check.about(24, "The order is to a PLACE (0 to 3) on a DAY (0 to 99): true. False: no such ones.");
        ParcelSplit split = Check.made(ALL.replace("order 0 0", "order 2 50"));
        int[][] right = {{0, 0}, {3, 0}, {0, 99}, {3, 99}, {3, 99}};
        for (int[] w : right) {
            check.due("order(" + w[0] + ", " + w[1] + ")", split.order(w[0], w[1]), true);
            due("PLACE", split.now(2), w[0]);
            due("DAY", split.now(3), w[1]);
        }
        int[][] wrong = {{4, 0}, {-1, 0}, {4, 99}, {-1, 99}, {0, 100}, {0, -1}, {3, 100}, {3, -1}, {4, 100}, {-1, -1},
            {LEAST_INT, 0}, {MOST_INT, 0}, {0, LEAST_INT}, {0, MOST_INT}, {LEAST_INT, MOST_INT}};
        for (int[] w : wrong) {
            check.due("order(" + w[0] + ", " + w[1] + ")", split.order(w[0], w[1]), false);
            due("PLACE stays", split.now(2), 3);
            due("DAY stays", split.now(3), 99);
        }
        due("five were done", split.now(6), 5);
        due("undo of one like it", split.undo(), 4);
        due("PLACE as it was", split.now(2), 3);
        due("undo", split.undo(), 3);
        due("PLACE ahead", split.now(2), 0);
        due("DAY ahead", split.now(3), 99);
        ParcelSplit none = new ParcelSplit();
        check.due("order of a new object", none.order(3, 99), true);
        check.due("order of a new object, wrong", none.order(4, 99), false);
    }

    // ---- promise 25

    private void undoOfNone() {
        check.about(25, "NONE: none is.");
        ParcelSplit split = new ParcelSplit();
        due("a new object", split.undo(), -1);
        due("again", split.undo(), -1);
        due("now(6)", split.now(6), 0);
        split.order(1, 1);
        due("of one", split.undo(), 0);
        due("of none", split.undo(), -1);
        due("of none again", split.undo(), -1);
        due("PLACE", split.now(2), 0);
        split.order(2, 2);
        due("now(6) of one", split.now(6), 1);
        due("of one again", split.undo(), 0);
        split.put(0, 0);
        split.by(8, 0);
        split.claim(0, 1);
        split.order(4, 0);
        due("of refused ones", split.undo(), -1);
    }

    private void tenAtMost() {
        check.about(25, "how many more can be (10 at most are kept)");
        for (int acts : new int[] {1, 9, 10, 11, 12, 19, 20, 21, 35}) {
            ParcelSplit split = Check.made(ALL);
            for (int i = 1; i <= acts; i++) {
                split.order(i % 4, i);
                due("now(6) behind " + i, split.now(6), Math.min(i, 10));
            }
            int kept = Math.min(acts, 10);
            for (int i = kept - 1; i >= 0; i--) {
                due("undo of " + acts, split.undo(), i);
                due("DAY of " + acts, split.now(3), acts - kept + i);
                due("PLACE of " + acts, split.now(2), (acts - kept + i) % 4);
            }
            due("undo of no more of " + acts, split.undo(), -1);
            due("DAY stays", split.now(3), acts - kept);
        }
    }

    /** One act of each kind, by its number; the goods 0 and 1 are in parcel 0 then. */
    private static void act(ParcelSplit split, int kind) {
        switch (kind) {
            case 0:
                split.put(2, 7);
                break;
            case 1:
                split.by(0, 2);
                break;
            case 2:
                split.take();
                break;
            case 3:
                split.claim(0, 5);
                break;
            default:
                split.order(2, 2);
                break;
        }
    }

    private static String shown(ParcelSplit split) {
        StringBuilder all = new StringBuilder();
        for (int w = 2; w < 6; w++) {
            all.append(split.now(w)).append(' ');
        }
        for (int p = 0; p < 8; p++) {
            for (int w = 0; w < 3; w++) {
                all.append(split.parcel(p, w)).append(' ');
            }
        }
        return all.toString();
    }

    private void eachKindAsTheEleventh() {
        check.about(25, "The latest put(), by(), take(), claim(), order() that was done is undone");
        for (int kind = 0; kind < 5; kind++) {
            ParcelSplit split = Check.made(ALL);
            split.put(0, 0);
            split.put(1, 0);
            for (int i = 0; i < 8; i++) {
                split.order(1, i);
            }
            String ahead = shown(split);
            act(split, kind);
            due("now(6) behind kind " + kind, split.now(6), 10);
            check.due("kind " + kind + " changes what is shown", shown(split).equals(ahead), false);
            due("undo of kind " + kind, split.undo(), 9);
            check.due("all is shown as ahead of kind " + kind, shown(split).equals(ahead), true);
            for (int i = 8; i >= 1; i--) {
                due("undo behind kind " + kind, split.undo(), i);
            }
            due("the goods ahead of the acts", split.parcel(0, 0), 3);
            due("undo of the second put", split.undo(), 0);
            due("the first put is not kept", split.undo(), -1);
            due("so its good is there", split.parcel(0, 0), 1);
        }
    }

    /** Acts of all kinds in turn, so that no two states are like. */
    private static void actInTurn(ParcelSplit split, int turn) {
        int[][] puts = {{0, 5}, {7, 6}, {3, 5}, {0, 1}, {1, 7}, {6, 2}};
        switch (turn % 4) {
            case 0:
                split.put(puts[turn / 4][0], puts[turn / 4][1]);
                break;
            case 1:
                split.by(7 - turn / 4, 1 + turn / 4 % 2);
                break;
            case 2:
                split.claim(split.parcel(5, 0) > 0 ? 5 : 1, 10 + turn);
                break;
            default:
                split.order(turn / 4 % 4, 40 + turn);
                break;
        }
    }

    /** A twin shows each state, as an object has 512 calls only. */
    private void allIsKeptOfTen() {
        check.about(25, "10 at most are kept");
        for (int acts : new int[] {10, 11, 14}) {
            String[] states = new String[acts + 1];
            ParcelSplit twin = Check.made(ALL);
            for (int i = 0; i < acts; i++) {
                states[i] = shown(twin);
                actInTurn(twin, i);
            }
            ParcelSplit split = Check.made(ALL);
            for (int i = 0; i < acts; i++) {
                actInTurn(split, i);
            }
            for (int i = 1; i <= 10; i++) {
                due("undo of " + acts, split.undo(), 10 - i);
                check.due("all as ahead of the last " + i + " of " + acts, shown(split).equals(states[acts - i]), true);
            }
            due("undo of no more of " + acts, split.undo(), -1);
        }
    }

    private void actsBehindUndo() {
        check.about(25, "how many more can be");
        ParcelSplit split = Check.made(ALL);
        for (int i = 1; i <= 14; i++) {
            split.order(0, i);
        }
        for (int i = 0; i < 6; i++) {
            split.undo();
        }
        due("DAY behind six undos", split.now(3), 8);
        due("now(6) behind six undos", split.now(6), 4);
        for (int i = 1; i <= 7; i++) {
            split.order(1, i);
            due("now(6) behind other acts", split.now(6), Math.min(10, 4 + i));
        }
        for (int i = 6; i >= 1; i--) {
            due("undo of the others", split.undo(), 3 + i);
            due("DAY of the others", split.now(3), i);
        }
        due("undo of the first of them", split.undo(), 3);
        due("DAY ahead of them", split.now(3), 8);
        due("undo of the older ones", split.undo(), 2);
        due("DAY of the older ones", split.now(3), 7);
        due("undo", split.undo(), 1);
        due("undo", split.undo(), 0);
        due("undo of no more", split.undo(), -1);
        due("DAY of the oldest", split.now(3), 5);
    }

    private void actsThatLeaveAllAsItWas() {
        check.about(25, "that was done");
        ParcelSplit split = Check.made(ALL);
        split.put(0, 0);
        split.by(0, 0);
        split.claim(0, 0);
        split.order(0, 0);
        due("by, claim, order that leave all as it was", split.now(6), 4);
        split.put(0, 0);
        due("put to where it is", split.now(6), 4);
        split.take();
        split.take();
        due("take twice", split.now(6), 6);
        for (int i = 5; i >= 0; i--) {
            due("undo", split.undo(), i);
        }
        due("good 0 is in none", Check.good(split, 0, 3), -1);
    }

    // ---- a new text

    private void newText() {
        check.about(4, "A new TEXT: all GOODS in no PARCEL, nothing CLAIMED, nothing can be undone.");
        ParcelSplit split = Check.made(ALL);
        for (int g = 0; g < 8; g++) {
            split.put(g, g);
            split.by(g, 2);
            split.claim(g, 9);
        }
        due("now(6) ahead", split.now(6), 10);
        split.order(3, 99);
        due("the same text again", Check.read(split, ALL), 18);
        int[] now = {3, 8, 0, 0, 0, 0, 0, 0};
        for (int w = 0; w < 8; w++) {
            due("now(" + w + ")", split.now(w), now[w]);
        }
        for (int p = 0; p < 8; p++) {
            due("good(" + p + ", 3)", Check.good(split, p, 3), -1);
            due("parcel(" + p + ", 0)", split.parcel(p, 0), 0);
            due("parcel(" + p + ", 1)", split.parcel(p, 1), 0);
            due("parcel(" + p + ", 2)", split.parcel(p, 2), -1);
            split.put(p, p);
            due("parcel(" + p + ", 2) with a good", split.parcel(p, 2), -1);
            due("charge of " + p, split.parcel(p, 4), 6);
        }
        for (int i = 7; i >= 0; i--) {
            due("undo of what came behind it", split.undo(), i);
        }
        due("undo of what came ahead of it", split.undo(), -1);
        due("PLACE", split.now(2), 0);
    }

    private void newTextWithLess() {
        check.about(4, "numbered from 0");
        ParcelSplit split = Check.made(ALL.replace("zones 0 0 1 2 3;", "zones 0 0 1 2 3;zones 1 1 2 3 0;"));
        due("least of eight", split.least(), 32);
        split.take();
        due("a text with less", Check.read(split, "carrier 9 9 9 0 9 0;break 9 7 8 9;zones 0 0 1 2 3;good 2 3 4;order 0 50;"), 5);
        due("zone(1) is no more", split.zone(1), -1);
        due("good(1, 0) is no more", Check.good(split, 1, 0), Check.THROWS);
        due("billed(2, 0) is no more", split.billed(2, 0), -1);
        due("the second zones line is no more", split.zone(0), 0);
        due("rate(0, 9)", split.rate(0, 9), 7);
        due("least()", split.least(), 7);
        due("would(2, 99)", split.would(2, 99), 9);
        due("would(3, 99)", split.would(3, 99), -2);
        due("bound()", split.bound(), 2);
        due("split(1, 0)", split.split(1, 0), -1);
        due("take()", split.take(), 1);
        due("parcel(0, 3)", split.parcel(0, 3), 7);
        due("parcel(1, 1)", split.parcel(1, 1), 0);
        due("a text without goods", Check.read(split, "carrier 9 9 9 0 9 0;break 9 7 8 9;zones 0 0 1 2 3;order 0 50;"), 4);
        due("least() without goods", split.least(), 0);
        due("bound() without goods", split.bound(), 0);
        due("charge(1, 0) without goods", split.charge(1, 0), -1);
        due("total(0) without goods", split.total(0), 0);
        due("put(0, 0) without goods", split.put(0, 0), -3);
        due("a text with more", Check.read(split, ALL), 18);
        due("least() of more", split.least(), 32);
    }
}
