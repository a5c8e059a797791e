import java.util.function.Supplier;

/** The edges that promises 1 and 2 name: the constructor, the start and clear. */
public final class StartAndClearEdgesTest {
    private static final Check CHECK = new Check();
    private static final int[][] LEAVES = {
        {Integer.MIN_VALUE, 2}, {Integer.MIN_VALUE + 1, 2}, {-12, 2}, {-2, 2}, {-1, 2}, {0, 2}, {1, 2},
        {2, 2}, {3, 3}, {4, 4}, {5, 5}, {6, 6}, {7, 7}, {8, 8}, {9, 9}, {10, 10}, {11, 11}, {12, 12},
        {13, 12}, {14, 12}, {224, 12}, {Integer.MAX_VALUE - 1, 12}, {Integer.MAX_VALUE, 12}
    };
    private static final int[][] CELLS = {
        {Integer.MIN_VALUE, 8}, {Integer.MIN_VALUE + 1, 8}, {-224, 8}, {-8, 8}, {-1, 8}, {0, 8}, {1, 8}, {7, 8},
        {8, 8}, {9, 9}, {10, 10}, {127, 127}, {128, 128}, {222, 222}, {223, 223}, {224, 224},
        {225, 224}, {226, 224}, {255, 224}, {256, 224}, {Integer.MAX_VALUE - 1, 224}, {Integer.MAX_VALUE, 224}
    };

    public static void main(String[] args) {
        everyPairOfInts();
        bothStayFixed();
        newObject();
        clearFromEveryState();
        clearOfAClearedObject();
        numbersBeginAgain();
        clearForgetsLeavesThatWereLarger();
        CHECK.finish();
    }

    /** "accepts every pair of ints"; "clamped into 2..12"; "clamped into 8..224". */
    private static void everyPairOfInts() {
        for (int[] leaves : LEAVES) {
            for (int[] cells : CELLS) {
                CHECK.at("new CountingRegex(" + leaves[0] + ", " + cells[0] + ")");
                CountingRegex x = new CountingRegex(leaves[0], cells[0]);
                hasLimits(x, leaves[1], cells[1]);
            }
        }
    }

    /** Fills a cleared object once up to its last leaf and once up to its last cell, and clears it. */
    private static void hasLimits(CountingRegex x, int leaves, int cells) {
        CHECK.due("room()", x.room(), cells);
        for (int p = 0; p < leaves && p < cells; p++) {
            CHECK.due("leaf " + p, x.leaf(1, 1, 1), p);
        }
        if (leaves < cells) {
            CHECK.due("room() after all leaves", x.room(), cells - leaves);
        }
        CHECK.due("one leaf more", x.leaf(1, 1, 1), CountingRegex.FULL);
        x.clear();
        CHECK.due("leaf(1, 1, " + (cells + 1) + ")", x.leaf(1, 1, cells + 1), CountingRegex.FULL);
        CHECK.due("leaf(1, " + (cells + 1) + ", UNBOUNDED)", x.leaf(1, cells + 1, -1), CountingRegex.FULL);
        CHECK.due("leaf(1, 1, " + cells + ")", x.leaf(1, 1, cells), 0);
        CHECK.due("room() after all cells", x.room(), 0);
        CHECK.due("op(STAR)", x.op(CountingRegex.STAR), CountingRegex.FULL);
        x.clear();
    }

    /** "Both clamped values stay fixed for the life of the object." */
    private static void bothStayFixed() {
        for (int[] leaves : new int[][] {{-5, 2}, {2, 2}, {5, 5}, {12, 12}, {99, 12}}) {
            for (int[] cells : new int[][] {{-5, 8}, {8, 8}, {30, 30}, {224, 224}, {999, 224}}) {
                CHECK.at("limits " + leaves[0] + " and " + cells[0] + " for life");
                CountingRegex x = new CountingRegex(leaves[0], cells[0]);
                for (int round = 0; round < 4; round++) {
                    hasLimits(x, leaves[1], cells[1]);
                    x.leaf(1, 1, 3);
                    x.leaf(1, 1, 4);
                    x.op(CountingRegex.CAT);
                    x.begin(1 + round % 2);
                    x.feed(0, 16);
                    x.clear();
                }
            }
        }
    }

    /** "The new object is in the state that clear leaves behind: phase BUILDING, empty stack, .." */
    private static void newObject() {
        for (int[] cells : CELLS) {
            CHECK.at("a new object with " + cells[0] + " cells");
            isEmpty(new CountingRegex(12, cells[0]), cells[1]);
            sameFromNow(() -> new CountingRegex(4, cells[0]), () -> {
                CountingRegex x = new CountingRegex(4, cells[0]);
                x.clear();
                return x;
            });
        }
    }

    private static void isEmpty(CountingRegex x, int cells) {
        CHECK.due("phase()", x.phase(), CountingRegex.BUILDING);
        CHECK.due("height()", x.height(), 0);
        CHECK.due("room()", x.room(), cells);
        CHECK.due("length()", x.length(), 0);
        CHECK.due("lastHit()", x.lastHit(), -1);
        CHECK.due("accepts()", x.accepts(), false);
        for (int letter = 0; letter <= 7; letter++) {
            CHECK.due("allowed(" + letter + ")", x.allowed(letter), false);
        }
        for (int p = 0; p <= 12; p++) {
            CHECK.due("size(" + p + ")", x.size(p), -1);
            CHECK.due("largest(" + p + ")", x.largest(p), -1);
            CHECK.due("smallest(" + p + ")", x.smallest(p), -1);
            for (int v = 1; v <= 224; v++) {
                CHECK.due("holds(" + p + ", " + v + ")", x.holds(p, v), false);
            }
        }
    }

    private static void sameFromNow(Supplier<CountingRegex> got, Supplier<CountingRegex> want) {
        for (Future future : Future.ALL) {
            future.same(CHECK, "the start", got.get(), want.get());
        }
    }

    /** "clear() works from any phase." Nothing of the time before is left. */
    private static void clearFromEveryState() {
        for (State state : State.all()) {
            CHECK.at("clear() on " + state.name());
            CountingRegex cleared = state.make();
            cleared.clear();
            isEmpty(cleared, state.cells());
            sameFromNow(() -> {
                CountingRegex x = state.make();
                x.clear();
                return x;
            }, state::makeNew);
        }
    }

    /** clear on an empty stack is no refusal and no change. */
    private static void clearOfAClearedObject() {
        CHECK.at("clear() twice");
        sameFromNow(() -> {
            CountingRegex x = new CountingRegex(3, 9);
            x.clear();
            x.clear();
            return x;
        }, () -> new CountingRegex(3, 9));
    }

    /** "the next leaf made gets number 0", whether the leaves were used up or not. */
    private static void numbersBeginAgain() {
        for (int made = 0; made <= 12; made++) {
            CHECK.at("clear() after " + made + " leaves");
            CountingRegex x = State.items(made).make();
            x.clear();
            CHECK.due("size(0)", x.size(0), -1);
            for (int p = 0; p < 12; p++) {
                CHECK.due("leaf " + p, x.leaf(1, 1, 1), p);
            }
            CHECK.due("leaf 12", x.leaf(1, 1, 1), CountingRegex.FULL);
        }
    }

    /** "No pair is held afterwards": not even of leaves that take the place of earlier ones. */
    private static void clearForgetsLeavesThatWereLarger() {
        for (int mode = CountingRegex.WHOLE; mode <= CountingRegex.SEARCH; mode++) {
            CHECK.at("all cells held in phase " + mode + ", then clear()");
            CountingRegex x = new CountingRegex(12, 224);
            x.leaf(255, 1, 224);
            x.begin(mode);
            for (int n = 0; n < 14; n++) {
                x.feed(n % 8, 16);
            }
            CHECK.due("largest(0)", x.largest(0), 224);
            x.clear();
            for (int p = 0; p < 12; p++) {
                x.leaf(255, 18, 18);
                CHECK.due("size(" + p + ")", x.size(p), 0);
            }
            for (int joins = 0; joins < 11; joins++) {
                x.op(CountingRegex.ALT);
            }
            x.begin(CountingRegex.WHOLE);
            CHECK.due("feed(3, 1)", x.feed(3, 1), 0);
            for (int p = 0; p < 12; p++) {
                CHECK.due("size(" + p + ")", x.size(p), 1);
                CHECK.due("largest(" + p + ")", x.largest(p), 1);
            }
        }
    }
}
