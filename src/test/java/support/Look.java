import java.util.ArrayList;
import java.util.List;

/**
 * All that an object shows by its calls: its state, then that ahead of each act that can be undone,
 * then what its tape is. Two objects with the same look can't be told apart. The object is used up by it.
 */
final class Look {
    private static final int MOST_CALLS = 512;

    private final ParcelSplit split;
    private final List<Integer> answers = new ArrayList<>();

    private Look(ParcelSplit split) {
        this.split = split;
    }

    /** The calls that were made ahead of it count, too: an object is used for 512 at most. */
    static List<Integer> of(ParcelSplit split, int callsAhead) {
        Look look = new Look(split);
        look.prices();
        look.state();
        look.acts();
        look.tape();
        if (look.answers.size() + callsAhead > MOST_CALLS) {
            throw new IllegalStateException("a test uses an object for too many calls: " + look.answers.size());
        }
        return look.answers;
    }

    private void prices() {
        answers.add(split.fault());
        for (int g = 0; g < 4; g++) {
            for (int w = 0; w < 4; w++) {
                answers.add(Check.good(split, g, w));
            }
        }
        for (int c = 0; c < 3; c++) {
            answers.add(split.zone(c));
            answers.add(split.rate(c, 1));
            answers.add(split.rate(c, 9));
            answers.add(split.billed(7, c));
            answers.add(split.charge(1, c));
            answers.add(split.charge(7, c));
        }
        answers.add(split.cheapest(7));
        for (int place = 0; place < 4; place++) {
            answers.add(split.would(place, 0));
            answers.add(split.would(place, 99));
        }
    }

    private void state() {
        for (int w = 0; w < 8; w++) {
            answers.add(split.now(w));
        }
        answers.add(split.least());
        answers.add(split.bound());
        answers.add(split.gap());
        for (int g = 0; g < 3; g++) {
            answers.add(split.split(g, 0));
            answers.add(split.split(g, 1));
        }
        answers.add(split.total(0));
        answers.add(split.total(1));
        for (int p = 0; p < 8; p++) {
            for (int w = 0; w < 5; w++) {
                answers.add(split.parcel(p, w));
            }
        }
    }

    private void acts() {
        for (int i = 0; i < 12; i++) {
            answers.add(split.undo());
            for (int w = 2; w < 7; w++) {
                answers.add(split.now(w));
            }
            for (int p : new int[] {0, 4, 7}) {
                for (int w = 0; w < 3; w++) {
                    answers.add(split.parcel(p, w));
                }
            }
        }
    }

    private void tape() {
        answers.add(split.text());
        answers.add(split.fault());
        answers.add(split.now(1));
        answers.add(split.now(3));
    }
}
