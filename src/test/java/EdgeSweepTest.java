import java.util.List;
import java.util.function.Consumer;

/**
 * All promises: every combination of the arguments that stand at an edge, in states that
 * stand at an edge, against the model. After a refused call everything that can be asked
 * is compared with the model, which has not changed.
 */
public final class EdgeSweepTest {
    private static final Check CHECK = new Check();
    private static final int MIN = Integer.MIN_VALUE;
    private static final int MAX = Integer.MAX_VALUE;

    private static final int[] MASKS = {MIN, -255, -1, 0, 1, 2, 3, 128, 254, 255, 256, 257, MAX};
    private static final int[] LEASTS = {MIN, -2, -1, 0, 1, 2, 3, 4, 5, 6, 7, 8, 9, 223, 224, 225, MAX - 1, MAX};
    private static final int[] MOSTS = {MIN, -3, -2, -1, 0, 1, 2, 3, 4, 5, 6, 7, 8, 9, 223, 224, 225, MAX - 1, MAX};
    private static final int[] KINDS = {MIN, -2, -1, 0, 1, 2, 3, 4, 5, 6, 7, 257, MAX};
    private static final int[] MODES = {MIN, -2, -1, 0, 1, 2, 3, 4, 257, MAX};
    private static final int[] LETTERS = {MIN, -32, -1, 0, 1, 2, 6, 7, 8, 9, 32, 256, MAX};
    private static final int[] TIMES = {MIN, -1, 0, 1, 2, 15, 16, 17, 32, 257, 4000, MAX - 4000, MAX};

    private record Start(String name, int maxLeaves, int cells, Consumer<Twin> calls) {
        Twin make() {
            Twin twin = new Twin(CHECK, maxLeaves, cells);
            calls.accept(twin);
            return twin;
        }
    }

    private static final List<Start> STARTS = List.of(
            new Start("a new object of the least size", MIN, MIN, twin -> { }),
            new Start("a new object of the greatest size", MAX, MAX, twin -> { }),
            new Start("one item", 3, 9, twin -> twin.leaf(3, 0, 2)),
            new Start("two items, one cell", 3, 8, twin -> {
                twin.leaf(1, 1, 2);
                twin.leaf(2, 5, -1);
            }),
            new Start("two items, no cell", 3, 8, twin -> {
                twin.leaf(1, 1, 2);
                twin.leaf(2, 6, -1);
            }),
            new Start("two items, no leaf", 2, 224, twin -> {
                twin.leaf(1, 1, 2);
                twin.leaf(2, 0, -1);
            }),
            new Start("one item, no cell and no leaf", 2, 8, twin -> {
                twin.leaf(1, 0, 3);
                twin.leaf(3, 4, -1);
                twin.op(CountingRegex.CAT);
                twin.op(CountingRegex.STAR);
            }),
            new Start("the empty input in WHOLE", 4, 20, twin -> begin(twin, CountingRegex.WHOLE)),
            new Start("the empty input in SEARCH", 4, 20, twin -> begin(twin, CountingRegex.SEARCH)),
            new Start("five letters in WHOLE", 4, 20, twin -> {
                begin(twin, CountingRegex.WHOLE);
                twin.feed(0, 5);
            }),
            new Start("five letters in SEARCH", 4, 20, twin -> {
                begin(twin, CountingRegex.SEARCH);
                twin.feed(0, 5);
            }),
            new Start("15 letters left in WHOLE", 4, 20, twin -> {
                twin.leaf(3, 2, -1);
                twin.begin(CountingRegex.WHOLE);
                feedUpTo(twin, CountingRegex.MAX_TEXT - 15);
            }),
            new Start("one letter left in SEARCH", 4, 20, twin -> {
                twin.leaf(3, 2, 3);
                twin.begin(CountingRegex.SEARCH);
                feedUpTo(twin, CountingRegex.MAX_TEXT - 1);
            }),
            new Start("no letter left in WHOLE", 4, 20, twin -> {
                twin.leaf(3, 2, -1);
                twin.begin(CountingRegex.WHOLE);
                feedUpTo(twin, CountingRegex.MAX_TEXT);
            }));

    public static void main(String[] args) {
        for (Start start : STARTS) {
            sweepLeaf(start);
            sweepOp(start);
            sweepBegin(start);
            sweepFeed(start);
        }
        CHECK.finish();
    }

    private static void begin(Twin twin, int mode) {
        twin.leaf(1, 1, 3);
        twin.leaf(3, 2, -1);
        twin.op(CountingRegex.CAT);
        twin.op(CountingRegex.STAR);
        twin.begin(mode);
    }

    private static void feedUpTo(Twin twin, int length) {
        for (int fed = 0; fed < length; fed += 16) {
            twin.feed(fed % 32 == 0 ? 0 : 1, Math.min(16, length - fed));
        }
    }

    /** The next call is made on the same object if this one was refused, and on a new one otherwise. */
    private static Twin next(Start start, Twin twin, int answer) {
        twin.compareCounts();
        return answer < 0 ? twin : start.make();
    }

    private static void sweepLeaf(Start start) {
        CHECK.at("leaf on " + start.name());
        Twin twin = start.make();
        for (int mask : MASKS) {
            for (int least : LEASTS) {
                for (int most : MOSTS) {
                    twin = next(start, twin, twin.leaf(mask, least, most));
                }
            }
        }
        twin.compare();
    }

    private static void sweepOp(Start start) {
        CHECK.at("op on " + start.name());
        Twin twin = start.make();
        for (int kind : KINDS) {
            twin = next(start, twin, twin.op(kind));
        }
        twin.compare();
    }

    private static void sweepBegin(Start start) {
        CHECK.at("begin on " + start.name());
        Twin twin = start.make();
        for (int mode : MODES) {
            twin = next(start, twin, twin.begin(mode));
        }
        twin.compare();
    }

    private static void sweepFeed(Start start) {
        CHECK.at("feed on " + start.name());
        Twin twin = start.make();
        for (int letter : LETTERS) {
            for (int times : TIMES) {
                twin = next(start, twin, twin.feed(letter, times));
            }
        }
        twin.compare();
    }
}
