import java.util.ArrayList;
import java.util.List;

/** The answers to everything that can be asked of an object now. */
final class Snapshot {
    private static final int[] LETTERS = {
        Integer.MIN_VALUE, -32, -1, 0, 1, 2, 3, 4, 5, 6, 7, 8, 32, 39, Integer.MAX_VALUE
    };
    private static final int[] LEAVES = {
        Integer.MIN_VALUE, -1, 0, 1, 2, 3, 4, 5, 6, 7, 8, 9, 10, 11, 12, Integer.MAX_VALUE
    };
    private static final int[] FAR_COUNTS = {Integer.MIN_VALUE, -1, Integer.MAX_VALUE};
    private static final int MOST_COUNT = 225;
    private static final int MOST_ANSWERS = 6000;

    /** The same questions stand at the same places of every snapshot. */
    private static final List<String> NAMES = names();

    private final int[] answers = new int[MOST_ANSWERS];
    private int filled = 0;

    Snapshot(CountingRegex x) {
        put(x.phase());
        put(x.height());
        put(x.room());
        put(x.length());
        put(x.lastHit());
        put(x.accepts());
        for (int letter : LETTERS) {
            put(x.allowed(letter));
        }
        for (int p : LEAVES) {
            put(x.size(p));
            put(x.largest(p));
            put(x.smallest(p));
            for (int v : FAR_COUNTS) {
                put(x.holds(p, v));
            }
            for (int v = 0; v <= MOST_COUNT; v++) {
                put(x.holds(p, v));
            }
        }
    }

    private static List<String> names() {
        List<String> names = new ArrayList<>(
                List.of("phase()", "height()", "room()", "length()", "lastHit()", "accepts()"));
        for (int letter : LETTERS) {
            names.add("allowed(" + letter + ")");
        }
        for (int p : LEAVES) {
            names.add("size(" + p + ")");
            names.add("largest(" + p + ")");
            names.add("smallest(" + p + ")");
            for (int v : FAR_COUNTS) {
                names.add("holds(" + p + ", " + v + ")");
            }
            for (int v = 0; v <= MOST_COUNT; v++) {
                names.add("holds(" + p + ", " + v + ")");
            }
        }
        return names;
    }

    private void put(int answer) {
        answers[filled++] = answer;
    }

    private void put(boolean answer) {
        put(answer ? 1 : 0);
    }

    /** Reports every question that the two answer differently. */
    static void same(Check check, String when, Snapshot got, Snapshot want) {
        for (int i = 0; i < want.filled; i++) {
            if (got.answers[i] != want.answers[i]) {
                check.due(NAMES.get(i) + " " + when, got.answers[i], want.answers[i]);
            }
        }
    }

    static void same(Check check, String when, CountingRegex got, CountingRegex want) {
        same(check, when, new Snapshot(got), new Snapshot(want));
    }
}
