import java.util.Random;

/** Random runs of calls, each answer held against the Model's (promises 1 to 25). */
public final class RandomRunsTest {
    private static final int RUNS = 400;
    private static final int CALLS = 512;

    private final Check check;
    private final Random random;
    private final Writer writer;
    private final ParcelSplit split = new ParcelSplit();
    private final Model model = new Model();
    private final String run;
    private int calls;

    private RandomRunsTest(Check check, int seed) {
        this.check = check;
        random = new Random(seed);
        writer = new Writer(random);
        run = "run " + seed + ": ";
    }

    public static void main(String[] args) {
        Check check = new Check();
        for (int seed = 1; seed <= RUNS; seed++) {
            new RandomRunsTest(check, seed).go(seed % 20 == 0 ? 8 : seed % 7);
        }
        check.close();
    }

    private void go(int goods) {
        while (calls < CALLS - 130) {
            if (random.nextInt(3) > 0) {
                read(writer.right(goods));
            } else {
                read(writer.changed(writer.right(8)));
            }
            int acts = 10 + random.nextInt(50);
            for (int i = 0; i < acts; i++) {
                call();
            }
        }
    }

    private void due(String what, long got, long want) {
        calls++;
        check.due(run + what, got, want);
    }

    private void read(String text) {
        for (int i = 0; i < text.length(); i += 20) {
            int[] n = Check.numbers(text, i);
            due("feed", split.feed(n[0], n[1], n[2], n[3], n[4]), model.feed(n));
        }
        due("end", split.end(text.length()) ? 1 : 0, model.end(text.length()) ? 1 : 0);
        due("text of '" + text + "'", split.text(), model.text());
        due("fault of '" + text + "'", split.fault(), model.fault());
    }

    private int any(int lowest, int highest) {
        if (random.nextInt(60) == 0) {
            return new int[] {Integer.MIN_VALUE, Integer.MAX_VALUE, -1, lowest - 1, highest + 1}[random.nextInt(5)];
        }
        return lowest + random.nextInt(highest - lowest + 1);
    }

    private void call() {
        int kind = random.nextInt(30);
        if (kind < 12) {
            act(kind);
        } else if (kind < 21) {
            ask(kind);
        } else {
            askForSplit(kind);
        }
    }

    private void act(int kind) {
        int a = any(0, 7);
        int b = any(-1, 3);
        switch (kind) {
            case 0: case 1: case 2: case 3:
                due("put " + a + " " + b, split.put(a, b), model.put(a, b));
                break;
            case 4:
                b = any(0, 2);
                due("by " + a + " " + b, split.by(a, b), model.by(a, b));
                break;
            case 5: case 6:
                a = any(0, 3);
                b = any(0, 60);
                due("claim " + a + " " + b, split.claim(a, b), model.claim(a, b));
                break;
            case 7:
                due("take", split.take(), model.take());
                break;
            case 8:
                a = any(0, 3);
                b = any(0, 99);
                due("order " + a + " " + b, split.order(a, b) ? 1 : 0, model.order(a, b) ? 1 : 0);
                break;
            default:
                due("undo", split.undo(), model.undo());
                break;
        }
    }

    private void ask(int kind) {
        int a = any(0, 7);
        int b = any(0, 4);
        int carrier = any(0, 2);
        int set = any(0, random.nextBoolean() ? 15 : 255);
        switch (kind) {
            case 12:
                due("now " + a, split.now(a), model.now(a));
                break;
            case 13:
                due("good " + a + " " + b, Check.good(split, a, b), model.good(a, b));
                break;
            case 14:
                due("zone " + carrier, split.zone(carrier), model.zone(carrier));
                break;
            case 15:
                int kilos = any(0, random.nextBoolean() ? 60 : 1000);
                due("rate " + carrier + " " + kilos, split.rate(carrier, kilos), model.rate(carrier, kilos));
                break;
            case 16:
                due("billed " + set + " " + carrier, split.billed(set, carrier), model.billed(set, carrier));
                break;
            case 17:
                due("charge " + set + " " + carrier, split.charge(set, carrier), model.charge(set, carrier));
                break;
            case 18:
                due("cheapest " + set, split.cheapest(set), model.cheapest(set));
                break;
            case 19:
                due("parcel " + a + " " + b, split.parcel(a, b), model.parcel(a, b));
                break;
            default:
                b = any(0, 1);
                due("total " + b, split.total(b), model.total(b));
                break;
        }
    }

    private void askForSplit(int kind) {
        int a = any(0, 7);
        int b = any(0, 1);
        switch (kind) {
            case 21:
                due("least", split.least(), model.least());
                break;
            case 22:
                due("bound", split.bound(), model.bound());
                break;
            case 23:
                due("gap", split.gap(), model.gap());
                break;
            case 24:
                a = any(0, 3);
                b = any(0, 99);
                due("would " + a + " " + b, split.would(a, b), model.would(a, b));
                break;
            case 25:
                for (int p = 0; p < 8; p++) {
                    due("parcel's charge", split.parcel(p, 4), model.parcel(p, 4));
                }
                break;
            default:
                due("split " + a + " " + b, split.split(a, b), model.split(a, b));
                break;
        }
    }
}
