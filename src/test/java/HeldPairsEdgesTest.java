/** The edges that promises 14 to 17 name: size, largest, smallest and holds. */
public final class HeldPairsEdgesTest {
    private static final Check CHECK = new Check();
    private static final int MIN = Integer.MIN_VALUE;
    private static final int MAX = Integer.MAX_VALUE;

    public static void main(String[] args) {
        noSuchLeaf();
        leavesOneByOne();
        refusedLeafIsNoLeaf();
        existingLeafWhileBuilding();
        falseForAllArgumentsWhileBuilding();
        noneHeld();
        fromNoneToAll();
        everyTop();
        noSuchPair();
        neighboursAreNotReached();
        greatestAndLeast();
        CHECK.finish();
    }

    private static void isNoLeaf(CountingRegex x, int p) {
        CHECK.due("size(" + p + ")", x.size(p), -1);
        CHECK.due("largest(" + p + ")", x.largest(p), -1);
        CHECK.due("smallest(" + p + ")", x.smallest(p), -1);
        for (int v : new int[] {MIN, -1, 0, 1, 2, 3, 5, 8, 20, 224, MAX}) {
            CHECK.due("holds(" + p + ", " + v + ")", x.holds(p, v), false);
        }
    }

    /** Leaf p exists and no pair of it is held. */
    private static void holdsNothing(CountingRegex x, int p) {
        CHECK.due("size(" + p + ")", x.size(p), 0);
        CHECK.due("largest(" + p + ")", x.largest(p), 0);
        CHECK.due("smallest(" + p + ")", x.smallest(p), 0);
        for (int v = -1; v <= 226; v++) {
            CHECK.due("holds(" + p + ", " + v + ")", x.holds(p, v), false);
        }
    }

    /** "-1 if there is no leaf p (p negative, or not below the number of leaves)", in every phase. */
    private static void noSuchLeaf() {
        for (State state : State.all()) {
            CHECK.at("no such leaf on " + state.name());
            CountingRegex x = state.make();
            int leaves = State.leavesOf(x);
            for (int p : new int[] {MIN, MIN + 1, -256, -12, -2, -1, 12, 13, 32, 224, 256, MAX - 1, MAX}) {
                isNoLeaf(x, p);
            }
            for (int p = leaves; p <= 13; p++) {
                isNoLeaf(x, p);
            }
            if (leaves > 0) {
                CHECK.due("largest of the last leaf", x.largest(leaves - 1) >= 0, true);
                CHECK.due("smallest of the last leaf", x.smallest(leaves - 1) >= 0, true);
                CHECK.due("size of the first leaf", x.size(0) >= 0, true);
            }
        }
    }

    /** The edge between the last leaf and no leaf, at every number of leaves. */
    private static void leavesOneByOne() {
        CHECK.at("leaves one by one");
        CountingRegex x = new CountingRegex(12, 224);
        for (int leaves = 0; leaves <= 12; leaves++) {
            isNoLeaf(x, -1);
            isNoLeaf(x, leaves);
            for (int p = 0; p < leaves; p++) {
                holdsNothing(x, p);
            }
            x.leaf(255, 1, 2);
            if (leaves > 0 && leaves < 12) {
                x.op(CountingRegex.CAT);
            }
        }
    }

    /** A refused leaf makes no leaf. */
    private static void refusedLeafIsNoLeaf() {
        CHECK.at("refused leaves");
        CountingRegex x = new CountingRegex(2, 8);
        x.leaf(0, 1, 1);
        x.leaf(1, 1, 9);
        isNoLeaf(x, 0);
        x.leaf(1, 1, 1);
        x.leaf(1, 2, 1);
        isNoLeaf(x, 1);
        x.leaf(1, 1, 1);
        x.leaf(1, 1, 1);
        isNoLeaf(x, 2);
        holdsNothing(x, 1);
    }

    /** "In BUILDING the answer for an existing leaf is 0", also where an earlier input held all of it. */
    private static void existingLeafWhileBuilding() {
        for (State state : State.building()) {
            CHECK.at("leaves of " + state.name());
            CountingRegex x = state.make();
            for (int p = 0; p < State.leavesOf(x); p++) {
                holdsNothing(x, p);
            }
        }
        CHECK.at("leaves made after an input");
        CountingRegex x = new CountingRegex(2, 224);
        x.leaf(1, 1, 224);
        x.begin(CountingRegex.SEARCH);
        for (int n = 0; n < 15; n++) {
            x.feed(0, 16);
        }
        CHECK.due("size(0)", x.size(0), 224);
        x.clear();
        x.leaf(1, 1, 100);
        x.leaf(1, 1, 124);
        holdsNothing(x, 0);
        holdsNothing(x, 1);
    }

    /** "In BUILDING it answers false for all arguments." */
    private static void falseForAllArgumentsWhileBuilding() {
        for (State state : State.building()) {
            CHECK.at("holds on " + state.name());
            CountingRegex x = state.make();
            for (int p : new int[] {MIN, -1, 0, 1, 2, 3, 11, 12, MAX}) {
                for (int v : new int[] {MIN, -1, 0, 1, 2, 3, 4, 5, 224, 225, MAX}) {
                    CHECK.due("holds(" + p + ", " + v + ")", x.holds(p, v), false);
                }
            }
        }
    }

    /** "0 if there is none", in WHOLE and SEARCH. */
    private static void noneHeld() {
        for (int mode = CountingRegex.WHOLE; mode <= CountingRegex.SEARCH; mode++) {
            CHECK.at("no pair held in phase " + mode);
            CountingRegex x = State.fed(mode, 0).make();
            holdsNothing(x, 0);
            holdsNothing(x, 1);
            isNoLeaf(x, 2);
            x = State.dead(mode).make();
            holdsNothing(x, 0);
            holdsNothing(x, 1);
            isNoLeaf(x, 2);
        }
    }

    /** "from 0 to top(p)": one more with every letter of a search, and back to none. */
    private static void fromNoneToAll() {
        for (int most : new int[] {1, 2, 5, CountingRegex.UNBOUNDED}) {
            CHECK.at("search for 0{1," + most + "}");
            int top = most == CountingRegex.UNBOUNDED ? 1 : most;
            CountingRegex x = new CountingRegex(2, 20);
            x.leaf(1, 1, most);
            x.begin(CountingRegex.SEARCH);
            for (int n = 0; n <= 8; n++) {
                int held = Math.min(n, top);
                CHECK.due("size(0)", x.size(0), held);
                CHECK.due("largest(0)", x.largest(0), held);
                CHECK.due("smallest(0)", x.smallest(0), held == 0 ? 0 : 1);
                for (int v = -1; v <= 9; v++) {
                    CHECK.due("holds(0, " + v + ")", x.holds(0, v), v >= 1 && v <= held);
                }
                x.feed(0, 1);
            }
            x.feed(1, 1);
            holdsNothing(x, 0);
        }
    }

    /** Every top from 1 to 224, bounded and endless, at the count of every letter and past the last. */
    private static void everyTop() {
        CountingRegex x = new CountingRegex(2, 224);
        for (int top = 1; top <= 224; top++) {
            for (int most : new int[] {top, CountingRegex.UNBOUNDED}) {
                CHECK.at("top " + top + (most == top ? "" : ", endless"));
                x.clear();
                x.leaf(1, top, most);
                x.begin(CountingRegex.WHOLE);
                for (int n = 1; n <= top + 2; n++) {
                    CHECK.due("feed(0, 1)", x.feed(0, 1), n == top || (n > top && most != top) ? 1 : 0);
                    int count = n <= top ? n : most == top ? 0 : top;
                    CHECK.due("size(0)", x.size(0), count == 0 ? 0 : 1);
                    CHECK.due("largest(0)", x.largest(0), count);
                    CHECK.due("smallest(0)", x.smallest(0), count);
                    for (int v = Math.max(0, n - 2); v <= n + 2; v++) {
                        CHECK.due("holds(0, " + v + ")", x.holds(0, v), v == count && v > 0);
                    }
                    CHECK.due("holds(0, 1)", x.holds(0, 1), count == 1);
                }
            }
        }
    }

    /** "false if there is .. no such pair, that is, for v below 1 or above top(p)". */
    private static void noSuchPair() {
        int[] far = {MIN, MIN + 1, MIN + 224, -225, -224, -5, -2, -1, 0, 256, 257, 1 << 16, (1 << 16) + 1, MAX - 224, MAX - 1, MAX};
        CountingRegex x = new CountingRegex(12, 224);
        for (int top = 1; top <= 70; top++) {
            CHECK.at("three neighbours of top " + top + ", all counts held");
            x.clear();
            for (int p = 0; p < 3; p++) {
                x.leaf(1, 1, top);
                if (p > 0) {
                    x.op(CountingRegex.ALT);
                }
            }
            x.begin(CountingRegex.SEARCH);
            for (int n = 0; n < 5; n++) {
                x.feed(0, 16);
            }
            for (int p = 0; p < 3; p++) {
                CHECK.due("size(" + p + ")", x.size(p), top);
                for (int v = 1; v <= 230; v++) {
                    CHECK.due("holds(" + p + ", " + v + ")", x.holds(p, v), v <= top);
                }
                for (int v : far) {
                    CHECK.due("holds(" + p + ", " + v + ")", x.holds(p, v), false);
                }
            }
        }
    }

    /** A count at its top goes into no other leaf, and none comes from there. */
    private static void neighboursAreNotReached() {
        CHECK.at("twelve leaves of different tops, one letter");
        CountingRegex x = new CountingRegex(12, 224);
        for (int p = 0; p < 12; p++) {
            x.leaf(1, p + 1, p + 1);
            if (p > 0) {
                x.op(CountingRegex.ALT);
            }
        }
        x.begin(CountingRegex.WHOLE);
        for (int n = 1; n <= 14; n++) {
            CHECK.due("feed(0, 1)", x.feed(0, 1), n <= 12 ? 1 : 0);
            for (int p = 0; p < 12; p++) {
                int count = n <= p + 1 ? n : 0;
                CHECK.due("size(" + p + ") after " + n, x.size(p), count == 0 ? 0 : 1);
                CHECK.due("largest(" + p + ") after " + n, x.largest(p), count);
                CHECK.due("smallest(" + p + ") after " + n, x.smallest(p), count);
            }
        }
    }

    /** "the greatest v", "the least v": with one pair, with a gap, and at both ends of the counts. */
    private static void greatestAndLeast() {
        CHECK.at("search for 0 [01]{1,224}, as far as there is room");
        CountingRegex x = new CountingRegex(2, 224);
        x.leaf(1, 1, 1);
        x.leaf(3, 1, 223);
        x.op(CountingRegex.CAT);
        x.begin(CountingRegex.SEARCH);
        x.feed(0, 1);
        for (int n = 1; n <= 223; n++) {
            x.feed(1, 1);
            CHECK.due("largest(1)", x.largest(1), n);
            CHECK.due("smallest(1)", x.smallest(1), n);
            CHECK.due("size(1)", x.size(1), 1);
        }
        x.feed(1, 1);
        holdsNothing(x, 1);
        x.feed(0, 1);
        x.feed(1, 1);
        x.feed(0, 1);
        x.feed(1, 1);
        for (int n = 1; n <= 221; n++) {
            CHECK.due("largest(1)", x.largest(1), n + 2);
            CHECK.due("smallest(1)", x.smallest(1), n);
            CHECK.due("size(1)", x.size(1), 2);
            CHECK.due("holds(1, " + (n + 1) + ")", x.holds(1, n + 1), false);
            x.feed(1, 1);
        }
        CHECK.due("largest(1)", x.largest(1), 222);
        CHECK.due("smallest(1)", x.smallest(1), 222);
        CHECK.due("size(1)", x.size(1), 1);
    }
}
