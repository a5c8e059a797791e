/** Promise 3: leaf. */
public final class LeafTest {
    private static final Check CHECK = new Check();
    private static final int MIN = Integer.MIN_VALUE;
    private static final int MAX = Integer.MAX_VALUE;

    public static void main(String[] args) {
        badArguments();
        goodEdges();
        costs();
        tooLarge();
        tooMany();
        badBeforeFull();
        wrongPhaseFirst();
        leafLeavesTheRest();
        CHECK.finish();
    }

    private static void badArguments() {
        CHECK.at("bad arguments");
        int[][] bad = {
            {0, 1, 1}, {-1, 1, 1}, {256, 1, 1}, {257, 1, 1}, {MIN, 1, 1}, {MAX, 1, 1},
            {1, -1, 1}, {1, -1, -1}, {1, -2, -1}, {1, MIN, 1}, {1, MIN, -1}, {1, MIN, MIN},
            {1, 0, 0}, {1, 1, 0}, {1, 0, -2}, {1, 1, -2}, {1, 0, MIN}, {1, 0, -3},
            {1, 2, 1}, {1, 5, 4}, {1, MAX, 1}, {1, MAX, MAX - 1}
        };
        CountingRegex x = new CountingRegex(3, 20);
        for (int[] one : bad) {
            CHECK.due(call(one), x.leaf(one[0], one[1], one[2]), CountingRegex.BAD);
            CHECK.due("height()", x.height(), 0);
            CHECK.due("room()", x.room(), 20);
            CHECK.due("size(0)", x.size(0), -1);
        }
        CHECK.due("leaf(1, 1, 1)", x.leaf(1, 1, 1), 0);
    }

    private static void goodEdges() {
        int[][] good = {
            {1, 0, 1}, {255, 0, 1}, {128, 1, 1}, {1, 0, -1}, {1, 1, -1}, {1, 20, -1}, {1, 20, 20},
            {1, 0, 20}, {1, 19, 20}
        };
        for (int[] one : good) {
            CHECK.at("good arguments");
            CountingRegex x = new CountingRegex(3, 20);
            CHECK.due(call(one), x.leaf(one[0], one[1], one[2]), 0);
            CHECK.due("height()", x.height(), 1);
            CHECK.due("accepts()", x.accepts(), one[1] == 0);
            for (int letter = 0; letter < 8; letter++) {
                CHECK.due("allowed(" + letter + ")", x.allowed(letter), (one[0] >> letter & 1) == 1);
            }
        }
    }

    private static void costs() {
        CHECK.at("costs");
        CountingRegex x = new CountingRegex(12, 50);
        int[][] costs = {{0, 1, 1}, {0, 4, 4}, {3, 7, 7}, {0, -1, 1}, {1, -1, 1}, {2, -1, 2}, {9, -1, 9}};
        int room = 50;
        for (int p = 0; p < costs.length; p++) {
            CHECK.due("leaf(1, " + costs[p][0] + ", " + costs[p][1] + ")", x.leaf(1, costs[p][0], costs[p][1]), p);
            room -= costs[p][2];
            CHECK.due("room()", x.room(), room);
            CHECK.due("height()", x.height(), p + 1);
        }
    }

    private static void tooLarge() {
        CHECK.at("too large for the room");
        int[][] large = {
            {0, 9}, {9, 9}, {9, -1}, {0, MAX}, {MAX, MAX}, {MAX, -1}, {MAX - 1, MAX}, {1 << 30, -1},
            {0, 1 << 16}, {256, 256}, {225, -1}
        };
        CountingRegex x = new CountingRegex(3, 8);
        for (int[] one : large) {
            CHECK.due("leaf(1, " + one[0] + ", " + one[1] + ")", x.leaf(1, one[0], one[1]), CountingRegex.FULL);
            CHECK.due("room()", x.room(), 8);
            CHECK.due("height()", x.height(), 0);
        }
        CHECK.due("leaf(1, 0, 3)", x.leaf(1, 0, 3), 0);
        CHECK.due("leaf(1, 0, 6)", x.leaf(1, 0, 6), CountingRegex.FULL);
        CHECK.due("leaf(1, 6, -1)", x.leaf(1, 6, -1), CountingRegex.FULL);
        CHECK.due("leaf(1, 5, -1)", x.leaf(1, 5, -1), 1);
        CHECK.due("leaf(1, 0, -1)", x.leaf(1, 0, -1), CountingRegex.FULL);
        CHECK.due("room()", x.room(), 0);
        CHECK.due("height()", x.height(), 2);
    }

    private static void tooMany() {
        CHECK.at("too many leaves");
        CountingRegex x = new CountingRegex(2, 20);
        x.leaf(1, 1, 1);
        x.leaf(1, 1, 1);
        x.op(CountingRegex.CAT);
        // A leaf that was taken into a larger item still counts.
        CHECK.due("leaf(1, 1, 1)", x.leaf(1, 1, 1), CountingRegex.FULL);
        CHECK.due("room()", x.room(), 18);
        CHECK.due("height()", x.height(), 1);
        CHECK.due("size(2)", x.size(2), -1);
    }

    private static void badBeforeFull() {
        CHECK.at("BAD before FULL");
        CountingRegex x = new CountingRegex(2, 8);
        x.leaf(1, 1, 7);
        x.leaf(1, 1, 1);
        CHECK.due("leaf(0, 1, 100)", x.leaf(0, 1, 100), CountingRegex.BAD);
        CHECK.due("leaf(256, 0, 1)", x.leaf(256, 0, 1), CountingRegex.BAD);
        CHECK.due("leaf(1, 300, 299)", x.leaf(1, 300, 299), CountingRegex.BAD);
        CHECK.due("leaf(1, -1, 300)", x.leaf(1, -1, 300), CountingRegex.BAD);
        CHECK.due("leaf(1, 1, 1)", x.leaf(1, 1, 1), CountingRegex.FULL);
    }

    private static void wrongPhaseFirst() {
        for (int mode = CountingRegex.WHOLE; mode <= CountingRegex.SEARCH; mode++) {
            CHECK.at("leaf in phase " + mode);
            CountingRegex x = new CountingRegex(2, 8);
            x.leaf(1, 1, 3);
            x.begin(mode);
            x.feed(0, 2);
            CHECK.due("leaf(1, 1, 1)", x.leaf(1, 1, 1), CountingRegex.WRONG_PHASE);
            CHECK.due("leaf(0, 1, 1)", x.leaf(0, 1, 1), CountingRegex.WRONG_PHASE);
            CHECK.due("leaf(1, 1, 100)", x.leaf(1, 1, 100), CountingRegex.WRONG_PHASE);
            CHECK.due("height()", x.height(), 1);
            CHECK.due("room()", x.room(), 5);
            CHECK.due("length()", x.length(), 2);
            CHECK.due("lastHit()", x.lastHit(), 2);
            CHECK.due("holds(0, 2)", x.holds(0, 2), true);
            CHECK.due("size(1)", x.size(1), -1);
        }
    }

    private static void leafLeavesTheRest() {
        CHECK.at("a leaf leaves the rest as it was");
        CountingRegex x = new CountingRegex(3, 20);
        x.leaf(1, 0, 2);
        x.leaf(2, 2, 3);
        CHECK.due("phase()", x.phase(), CountingRegex.BUILDING);
        CHECK.due("length()", x.length(), 0);
        CHECK.due("lastHit()", x.lastHit(), -1);
        x.op(CountingRegex.CAT);
        x.begin(CountingRegex.WHOLE);
        CHECK.due("feed(0, 2)", x.feed(0, 2), 0);
        CHECK.due("feed(1, 4)", x.feed(1, 4), 2);
        CHECK.due("lastHit()", x.lastHit(), 5);
    }

    private static String call(int[] given) {
        return "leaf(" + given[0] + ", " + given[1] + ", " + given[2] + ")";
    }
}
