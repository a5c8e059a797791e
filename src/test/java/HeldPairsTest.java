import java.util.TreeSet;

/** Promises 14 to 17: size, largest, smallest and holds. */
public final class HeldPairsTest {
    private static final Check CHECK = new Check();
    private static final int[] FAR = {Integer.MIN_VALUE, Integer.MIN_VALUE + 1, -225, -12, -2, -1, 0};

    public static void main(String[] args) {
        noSuchLeaf();
        nothingHeldWhileBuilding();
        noSuchPair();
        gaps();
        neighboursStayApart();
        repeatedLeaf();
        wholeRoomInASearch();
        sameClassTwice();
        CHECK.finish();
    }

    /** Exactly the given counts of leaf p are held. */
    private static void heldCounts(CountingRegex x, int p, int top, int... counts) {
        TreeSet<Integer> due = new TreeSet<>();
        for (int v : counts) {
            due.add(v);
        }
        CHECK.due("size(" + p + ")", x.size(p), due.size());
        CHECK.due("largest(" + p + ")", x.largest(p), due.isEmpty() ? 0 : due.last());
        CHECK.due("smallest(" + p + ")", x.smallest(p), due.isEmpty() ? 0 : due.first());
        for (int v : FAR) {
            CHECK.due("holds(" + p + ", " + v + ")", x.holds(p, v), false);
        }
        for (int v = 1; v <= top + 300; v++) {
            CHECK.due("holds(" + p + ", " + v + ")", x.holds(p, v), due.contains(v));
        }
        CHECK.due("holds(" + p + ", greatest int)", x.holds(p, Integer.MAX_VALUE), false);
    }

    private static void isNoLeaf(CountingRegex x, int p) {
        CHECK.due("size(" + p + ")", x.size(p), -1);
        CHECK.due("largest(" + p + ")", x.largest(p), -1);
        CHECK.due("smallest(" + p + ")", x.smallest(p), -1);
        for (int v = -2; v <= 30; v++) {
            CHECK.due("holds(" + p + ", " + v + ")", x.holds(p, v), false);
        }
    }

    private static void noSuchLeaf() {
        int[] none = {Integer.MIN_VALUE, -12, -1, 2, 3, 4, 11, 12, 13, 224, Integer.MAX_VALUE};
        for (int phase = CountingRegex.BUILDING; phase <= CountingRegex.SEARCH; phase++) {
            CHECK.at("no such leaf in phase " + phase);
            CountingRegex x = new CountingRegex(4, 30);
            x.leaf(1, 1, 5);
            x.leaf(1, 1, 5);
            x.op(CountingRegex.CAT);
            x.begin(phase);
            x.feed(0, 4);
            for (int p : none) {
                isNoLeaf(x, p);
            }
        }
    }

    private static void nothingHeldWhileBuilding() {
        CHECK.at("nothing held while building");
        CountingRegex x = new CountingRegex(4, 30);
        x.leaf(1, 0, 5);
        heldCounts(x, 0, 5);
        isNoLeaf(x, 1);
        x.leaf(2, 0, CountingRegex.UNBOUNDED);
        x.op(CountingRegex.CAT);
        heldCounts(x, 0, 5);
        heldCounts(x, 1, 1);
        x.begin(CountingRegex.SEARCH);
        heldCounts(x, 0, 5);
        x.feed(0, 9);
        heldCounts(x, 0, 5, 1, 2, 3, 4, 5);
        x.clear();
        isNoLeaf(x, 0);
        x.leaf(1, 0, 7);
        heldCounts(x, 0, 7);
        x.begin(CountingRegex.WHOLE);
        heldCounts(x, 0, 7);
    }

    private static void noSuchPair() {
        CHECK.at("no such pair");
        CountingRegex x = new CountingRegex(4, 30);
        x.leaf(1, 1, 3);
        x.leaf(1, 1, 4);
        x.leaf(1, 1, 5);
        x.op(CountingRegex.ALT);
        x.op(CountingRegex.ALT);
        x.begin(CountingRegex.SEARCH);
        x.feed(0, 6);
        // The counts beyond one leaf's top must not be those of its neighbour.
        heldCounts(x, 0, 3, 1, 2, 3);
        heldCounts(x, 1, 4, 1, 2, 3, 4);
        heldCounts(x, 2, 5, 1, 2, 3, 4, 5);
    }

    private static void gaps() {
        CHECK.at("gaps in 0 [01]{20,40}");
        CountingRegex x = new CountingRegex(4, 50);
        x.leaf(1, 1, 1);
        x.leaf(3, 20, 40);
        x.op(CountingRegex.CAT);
        x.begin(CountingRegex.SEARCH);
        x.feed(0, 1);
        x.feed(1, 5);
        x.feed(0, 1);
        x.feed(1, 1);
        x.feed(0, 1);
        heldCounts(x, 0, 1, 1);
        heldCounts(x, 1, 40, 8, 2);
        x.feed(1, 16);
        heldCounts(x, 0, 1);
        heldCounts(x, 1, 40, 24, 18, 16);
        x.feed(1, 16);
        heldCounts(x, 1, 40, 40, 34, 32);
        x.feed(1, 1);
        heldCounts(x, 1, 40, 35, 33);
        x.feed(2, 1);
        heldCounts(x, 1, 40);
    }

    private static void neighboursStayApart() {
        CHECK.at("one letter after the other, then none");
        CountingRegex x = new CountingRegex(4, 30);
        x.leaf(1, 1, 3);
        x.leaf(2, 1, 3);
        x.op(CountingRegex.CAT);
        x.begin(CountingRegex.WHOLE);
        x.feed(0, 3);
        heldCounts(x, 0, 3, 3);
        heldCounts(x, 1, 3);
        x.feed(1, 1);
        heldCounts(x, 0, 3);
        heldCounts(x, 1, 3, 1);
        x.feed(1, 2);
        heldCounts(x, 1, 3, 3);
        x.feed(1, 1);
        heldCounts(x, 0, 3);
        heldCounts(x, 1, 3);
    }

    private static void repeatedLeaf() {
        CHECK.at("(0{3,5})+");
        CountingRegex x = new CountingRegex(4, 30);
        x.leaf(1, 3, 5);
        x.op(CountingRegex.PLUS);
        x.begin(CountingRegex.WHOLE);
        int[][] due = {{1}, {2}, {3}, {4, 1}, {5, 2, 1}, {3, 2, 1}, {4, 3, 2, 1}, {5, 4, 3, 2, 1}, {5, 4, 3, 2, 1}};
        for (int[] counts : due) {
            x.feed(0, 1);
            heldCounts(x, 0, 5, counts);
        }
        CHECK.at("(0{2,})*");
        x.clear();
        x.leaf(1, 2, CountingRegex.UNBOUNDED);
        x.op(CountingRegex.STAR);
        x.begin(CountingRegex.WHOLE);
        int[][] endless = {{1}, {2}, {2, 1}, {2, 1}, {2, 1}};
        for (int[] counts : endless) {
            x.feed(0, 1);
            heldCounts(x, 0, 2, counts);
        }
    }

    private static void wholeRoomInASearch() {
        CHECK.at("224 counts");
        CountingRegex x = new CountingRegex(12, 224);
        x.leaf(1, 224, 224);
        x.begin(CountingRegex.SEARCH);
        for (int n = 1; n <= 300; n++) {
            CHECK.due("feed(0, 1)", x.feed(0, 1), n >= 224 ? 1 : 0);
            CHECK.due("size(0)", x.size(0), Math.min(n, 224));
            CHECK.due("largest(0)", x.largest(0), Math.min(n, 224));
            CHECK.due("smallest(0)", x.smallest(0), 1);
        }
        x.begin(CountingRegex.WHOLE);
        for (int n = 1; n <= 230; n++) {
            CHECK.due("feed(0, 1)", x.feed(0, 1), n == 224 ? 1 : 0);
            CHECK.due("size(0)", x.size(0), n <= 224 ? 1 : 0);
            CHECK.due("largest(0)", x.largest(0), n <= 224 ? n : 0);
            CHECK.due("smallest(0)", x.smallest(0), n <= 224 ? n : 0);
        }
    }

    private static void sameClassTwice() {
        CHECK.at("12 leaves of one class");
        CountingRegex x = new CountingRegex(12, 224);
        for (int p = 0; p < 12; p++) {
            x.leaf(4, 0, 18);
            if (p > 0) {
                x.op(CountingRegex.CAT);
            }
        }
        x.begin(CountingRegex.WHOLE);
        for (int n = 1; n <= 16; n++) {
            x.feed(2, 1);
            for (int p = 0; p < 12; p++) {
                // All earlier leaves may have taken any share of the letters.
                CHECK.due("size(" + p + ")", x.size(p), p == 0 ? 1 : n);
                CHECK.due("largest(" + p + ")", x.largest(p), n);
                CHECK.due("smallest(" + p + ")", x.smallest(p), p == 0 ? n : 1);
            }
        }
    }
}
