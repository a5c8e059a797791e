/** Promises 1 and 2: the constructor, the start and clear. */
public final class StartAndClearTest {
    private static final Check CHECK = new Check();

    public static void main(String[] args) {
        roomIsClamped();
        leavesAreClamped();
        for (int cells : new int[] {Integer.MIN_VALUE, 8, 100, 224, Integer.MAX_VALUE}) {
            CHECK.at("new object with " + cells + " cells");
            isNew(new CountingRegex(12, cells), Math.max(8, Math.min(224, cells)));
        }
        clearWhileBuilding();
        clearFrom(CountingRegex.WHOLE);
        clearFrom(CountingRegex.SEARCH);
        clearKeepsTheLimits();
        clearForgetsWhatFollows();
        objectsAreApart();
        CHECK.finish();
    }

    private static void isNew(CountingRegex x, int wholeRoom) {
        CHECK.due("phase()", x.phase(), CountingRegex.BUILDING);
        CHECK.due("height()", x.height(), 0);
        CHECK.due("room()", x.room(), wholeRoom);
        CHECK.due("length()", x.length(), 0);
        CHECK.due("lastHit()", x.lastHit(), -1);
        CHECK.due("accepts()", x.accepts(), false);
        for (int letter = -1; letter <= 8; letter++) {
            CHECK.due("allowed(" + letter + ")", x.allowed(letter), false);
        }
        for (int p = -1; p <= 12; p++) {
            CHECK.due("size(" + p + ")", x.size(p), -1);
            CHECK.due("largest(" + p + ")", x.largest(p), -1);
            CHECK.due("smallest(" + p + ")", x.smallest(p), -1);
            CHECK.due("holds(" + p + ", 1)", x.holds(p, 1), false);
        }
        CHECK.due("begin(WHOLE)", x.begin(CountingRegex.WHOLE), CountingRegex.NOT_ONE);
        CHECK.due("op(STAR)", x.op(CountingRegex.STAR), CountingRegex.TOO_FEW);
        CHECK.due("feed(0, 1)", x.feed(0, 1), CountingRegex.WRONG_PHASE);
    }

    private static void roomIsClamped() {
        int[][] given = {
            {Integer.MIN_VALUE, 8}, {-8, 8}, {-1, 8}, {0, 8}, {7, 8}, {8, 8}, {9, 9}, {100, 100},
            {223, 223}, {224, 224}, {225, 224}, {Integer.MAX_VALUE, 224}
        };
        for (int[] one : given) {
            CHECK.at("room of " + one[0]);
            CountingRegex x = new CountingRegex(5, one[0]);
            CHECK.due("room()", x.room(), one[1]);
            CHECK.due("leaf(1, 1, " + (one[1] + 1) + ")", x.leaf(1, 1, one[1] + 1), CountingRegex.FULL);
            CHECK.due("leaf(1, 1, " + one[1] + ")", x.leaf(1, 1, one[1]), 0);
            CHECK.due("room()", x.room(), 0);
        }
    }

    private static void leavesAreClamped() {
        int[][] given = {
            {Integer.MIN_VALUE, 2}, {-1, 2}, {0, 2}, {1, 2}, {2, 2}, {3, 3}, {7, 7}, {11, 11}, {12, 12},
            {13, 12}, {100, 12}, {Integer.MAX_VALUE, 12}
        };
        for (int[] one : given) {
            CHECK.at("greatest number of leaves " + one[0]);
            leavesFit(new CountingRegex(one[0], 100), one[1]);
        }
    }

    private static void leavesFit(CountingRegex x, int most) {
        for (int p = 0; p < most; p++) {
            CHECK.due("leaf(1, 1, 1)", x.leaf(1, 1, 1), p);
        }
        CHECK.due("leaf(1, 1, 1)", x.leaf(1, 1, 1), CountingRegex.FULL);
        CHECK.due("height()", x.height(), most);
    }

    private static void clearWhileBuilding() {
        CHECK.at("clear while building");
        CountingRegex x = new CountingRegex(4, 20);
        x.leaf(1, 0, 5);
        x.leaf(2, 0, 5);
        x.op(CountingRegex.STAR);
        x.clear();
        isNew(x, 20);
        x.clear();
        isNew(x, 20);
    }

    private static void clearFrom(int mode) {
        CHECK.at("clear from phase " + mode);
        CountingRegex x = new CountingRegex(4, 20);
        x.leaf(1, 0, 5);
        x.begin(mode);
        CHECK.due("feed(0, 3)", x.feed(0, 3), 3);
        x.clear();
        isNew(x, 20);
        CHECK.due("leaf(1, 1, 5)", x.leaf(1, 1, 5), 0);
        CHECK.due("size(0)", x.size(0), 0);
        CHECK.due("holds(0, 3)", x.holds(0, 3), false);
        CHECK.due("size(1)", x.size(1), -1);
    }

    private static void clearKeepsTheLimits() {
        CHECK.at("clear keeps the limits");
        CountingRegex x = new CountingRegex(3, 9);
        for (int round = 0; round < 3; round++) {
            leavesFit(x, 3);
            x.clear();
            CHECK.due("room()", x.room(), 9);
            CHECK.due("leaf(1, 1, 10)", x.leaf(1, 1, 10), CountingRegex.FULL);
            CHECK.due("leaf(1, 1, 9)", x.leaf(1, 1, 9), 0);
            x.clear();
        }
    }

    private static void clearForgetsWhatFollows() {
        CHECK.at("clear forgets which leaf follows which");
        CountingRegex x = new CountingRegex(3, 20);
        x.leaf(1, 1, 1);
        x.leaf(2, 1, 1);
        x.op(CountingRegex.CAT);
        x.op(CountingRegex.STAR);
        x.clear();
        x.leaf(1, 1, 1);
        x.leaf(2, 1, 1);
        x.op(CountingRegex.ALT);
        x.begin(CountingRegex.WHOLE);
        CHECK.due("feed(0, 1)", x.feed(0, 1), 1);
        CHECK.due("allowed(0)", x.allowed(0), false);
        CHECK.due("allowed(1)", x.allowed(1), false);
        CHECK.due("feed(1, 1)", x.feed(1, 1), 0);
    }

    private static void objectsAreApart() {
        CHECK.at("two objects");
        CountingRegex x = new CountingRegex(3, 20);
        CountingRegex y = new CountingRegex(4, 30);
        x.leaf(1, 1, 4);
        x.begin(CountingRegex.SEARCH);
        x.feed(0, 2);
        isNew(y, 30);
        y.leaf(2, 2, 2);
        y.clear();
        CHECK.due("size(0)", x.size(0), 2);
        CHECK.due("length()", x.length(), 2);
        CHECK.due("room()", x.room(), 16);
    }
}
