/** The edges that promise 3 names: leaf. */
public final class LeafEdgesTest {
    private static final Check CHECK = new Check();
    private static final int MIN = Integer.MIN_VALUE;
    private static final int MAX = Integer.MAX_VALUE;
    private static final int ENDLESS = CountingRegex.UNBOUNDED;

    /** Arguments that are BAD for one reason alone. */
    private static final int[][] BAD = {
        {MIN, 1, 2}, {-255, 1, 2}, {-1, 1, 2}, {0, 1, 2}, {256, 1, 2}, {257, 1, 2}, {511, 1, 2}, {MAX, 1, 2},
        {1, MIN, 2}, {1, -2, 2}, {1, -1, 2}, {1, MIN, ENDLESS}, {1, -2, ENDLESS}, {1, -1, ENDLESS},
        {1, 0, 0}, {1, 0, -2}, {1, 0, -3}, {1, 0, MIN},
        {1, 2, 1}, {1, 3, 1}, {1, 8, 7}, {1, 225, 224}, {1, MAX, 1}, {1, MAX, MAX - 1}
    };

    /** Arguments that are BAD for several reasons. */
    private static final int[][] WORSE = {
        {0, -1, 0}, {256, -1, -2}, {MIN, MIN, MIN}, {MAX, MAX, MIN}, {MAX, MIN, MAX}, {0, 2, 1}, {1, 1, 0},
        {1, 1, -2}, {1, MAX, MIN}, {1, -1, -2}, {1, MIN, MIN}, {0, -1, ENDLESS}, {256, MAX, MAX - 1}
    };

    /** Arguments that are not BAD but cost more than any room. */
    private static final int[][] HUGE = {
        {1, 0, 225}, {1, 225, 225}, {1, 225, ENDLESS}, {1, 0, 256}, {1, 256, 256}, {1, 256, ENDLESS},
        {1, 257, 257}, {1, 257, ENDLESS}, {1, 1, 1 << 16}, {1, 1 << 16, ENDLESS}, {1, (1 << 16) + 1, ENDLESS},
        {1, 1, 1 << 30}, {1, 1 << 30, 1 << 30}, {1, 1 << 30, ENDLESS}, {1, 0, MAX - 1}, {1, MAX - 1, MAX - 1},
        {1, MAX - 1, ENDLESS}, {255, 0, MAX}, {255, 1, MAX}, {255, MAX - 1, MAX}, {255, MAX, MAX}, {255, MAX, ENDLESS}
    };

    public static void main(String[] args) {
        wrongPhase();
        wrongPhaseBeforeAllElse();
        badAlone();
        badBeforeFull();
        masks();
        leastBounds();
        mostBounds();
        mostAgainstLeast();
        asManyLeavesAsAllowed();
        leavesAreCountedAndNotItems();
        costAgainstRoom();
        everyRoom();
        fullAlone();
        everyIntValue();
        refusedLeavesNoNumberAndNoRoom();
        acceptedLeafKeepsTheRest();
        CHECK.finish();
    }

    private static String call(int[] given) {
        return "leaf(" + given[0] + ", " + given[1] + ", " + given[2] + ")";
    }

    private static void refused(State state, int[] given, int want) {
        Unchanged.refused(CHECK, state, call(given), x -> x.leaf(given[0], given[1], given[2]), want);
    }

    /** A leaf alone on a new object with the whole room 224. */
    private static void answers(int mask, int least, int most, int want) {
        CountingRegex x = new CountingRegex(2, 224);
        String name = call(new int[] {mask, least, most});
        CHECK.due(name, x.leaf(mask, least, most), want);
        CHECK.due("height() after " + name, x.height(), want < 0 ? 0 : 1);
        int cost = most != ENDLESS ? most : Math.max(least, 1);
        CHECK.due("room() after " + name, x.room(), want < 0 ? 224 : 224 - cost);
        CHECK.due("size(0) after " + name, x.size(0), want < 0 ? -1 : 0);
        CHECK.due("size(1) after " + name, x.size(1), -1);
    }

    /** "The phase is not BUILDING: WRONG_PHASE." */
    private static void wrongPhase() {
        CHECK.at("wrong phase alone");
        for (State state : State.matching()) {
            refused(state, new int[] {1, 1, 1}, CountingRegex.WRONG_PHASE);
        }
    }

    /** "they are tried in that order and the first that applies decides": the phase before all else. */
    private static void wrongPhaseBeforeAllElse() {
        CHECK.at("wrong phase before all else");
        for (State state : State.matching()) {
            for (int[][] table : new int[][][] {BAD, WORSE, HUGE}) {
                CountingRegex x = state.make();
                for (int[] given : table) {
                    CHECK.due(call(given) + " on " + state.name(), x.leaf(given[0], given[1], given[2]),
                            CountingRegex.WRONG_PHASE);
                }
                Snapshot.same(CHECK, "after refused leaves", x, state.make());
            }
        }
        refused(State.fed(CountingRegex.WHOLE, 7), new int[] {0, 1, 1}, CountingRegex.WRONG_PHASE);
        refused(State.fed(CountingRegex.SEARCH, 7), new int[] {1, 1, 225}, CountingRegex.WRONG_PHASE);
        refused(State.nothingLeft(CountingRegex.WHOLE), new int[] {1, 1, 1}, CountingRegex.WRONG_PHASE);
        refused(State.nothingLeft(CountingRegex.SEARCH), new int[] {256, MIN, MAX}, CountingRegex.WRONG_PHASE);
    }

    /** "mask is below 1 or above 255, or least is below 0, or ..: BAD", each reason alone. */
    private static void badAlone() {
        CHECK.at("bad for one reason");
        for (int[] given : BAD) {
            refused(State.items(0), given, CountingRegex.BAD);
            refused(State.items(2), given, CountingRegex.BAD);
            refused(State.compoundItems(), given, CountingRegex.BAD);
        }
        CHECK.at("bad for several reasons");
        for (int[] given : WORSE) {
            refused(State.items(2), given, CountingRegex.BAD);
        }
    }

    /** The second reason before the third: no leaf left, no room left, both, and a cost beyond any room. */
    private static void badBeforeFull() {
        CHECK.at("bad before full");
        for (int[][] table : new int[][][] {BAD, WORSE}) {
            for (int[] given : table) {
                refused(State.noLeafLeft(), given, CountingRegex.BAD);
                refused(State.noRoomLeft(), given, CountingRegex.BAD);
                refused(State.nothingLeft(), given, CountingRegex.BAD);
            }
        }
        for (int mask : new int[] {MIN, 0, 256, MAX}) {
            for (int[] given : HUGE) {
                refused(State.items(1), new int[] {mask, given[1], given[2]}, CountingRegex.BAD);
            }
        }
        refused(State.items(1), new int[] {1, -1, MAX}, CountingRegex.BAD);
        refused(State.items(1), new int[] {1, MIN, MAX}, CountingRegex.BAD);
    }

    /** "mask is below 1 or above 255": every mask about the edges and every one between them. */
    private static void masks() {
        CHECK.at("masks");
        for (int mask = -300; mask <= 600; mask++) {
            answers(mask, 1, 1, mask >= 1 && mask <= 255 ? 0 : CountingRegex.BAD);
        }
        for (int bit = 8; bit < 32; bit++) {
            // The low eight bits alone would be a class.
            answers(1 << bit | 1, 1, 1, CountingRegex.BAD);
            answers(1 << bit, 1, 1, CountingRegex.BAD);
        }
        answers(MAX, 1, 1, CountingRegex.BAD);
        answers(MIN, 1, 1, CountingRegex.BAD);
    }

    /** "or least is below 0". */
    private static void leastBounds() {
        CHECK.at("least");
        for (int most : new int[] {ENDLESS, 1, 224}) {
            for (int least : new int[] {MIN, MIN + 1, -256, -3, -2, -1}) {
                answers(1, least, most, CountingRegex.BAD);
            }
            answers(1, 0, most, 0);
            answers(1, 1, most, 0);
        }
    }

    /** "or most is not UNBOUNDED and (most is below 1 ..": -1 alone is no bound at all. */
    private static void mostBounds() {
        CHECK.at("most");
        for (int most : new int[] {MIN, MIN + 1, -256, -3, -2, 0}) {
            answers(1, 0, most, CountingRegex.BAD);
            answers(1, 1, most, CountingRegex.BAD);
        }
        answers(1, 0, 1, 0);
        answers(1, 0, 2, 0);
        answers(1, 0, ENDLESS, 0);
        answers(1, 1, ENDLESS, 0);
        answers(1, 2, ENDLESS, 0);
        answers(1, 224, ENDLESS, 0);
    }

    /** ".. or most is below least)": one less, equal, one more, for every pair within the room. */
    private static void mostAgainstLeast() {
        CHECK.at("most against least");
        for (int least = 0; least <= 225; least++) {
            for (int most = 0; most <= 225; most++) {
                int full = most > 224 ? CountingRegex.FULL : 0;
                answers(1, least, most, most < 1 || most < least ? CountingRegex.BAD : full);
            }
        }
        answers(1, MAX, MAX - 1, CountingRegex.BAD);
        answers(1, MAX, MAX, CountingRegex.FULL);
        answers(1, MAX - 1, MAX, CountingRegex.FULL);
    }

    /** "There are already maxLeaves leaves": the last that fits and the first that does not. */
    private static void asManyLeavesAsAllowed() {
        for (int given = 0; given <= 14; given++) {
            int most = Math.max(2, Math.min(12, given));
            CHECK.at("greatest number of leaves " + given);
            State state = new State("as many leaves as allowed", given, 224, x -> {
                for (int p = 0; p < most; p++) {
                    CHECK.due("leaf " + p, x.leaf(1, 1, 1), p);
                }
            });
            refused(state, new int[] {1, 1, 1}, CountingRegex.FULL);
            refused(state, new int[] {255, 0, ENDLESS}, CountingRegex.FULL);
        }
    }

    /** A leaf within a larger item is still one of the leaves. */
    private static void leavesAreCountedAndNotItems() {
        CHECK.at("leaves and not items");
        for (int join = CountingRegex.CAT; join <= CountingRegex.ALT; join++) {
            int kind = join;
            State state = new State("all leaves in one item by " + kind, 12, 224, x -> {
                x.leaf(1, 1, 1);
                for (int p = 1; p < 12; p++) {
                    CHECK.due("leaf " + p, x.leaf(2, 1, 1), p);
                    CHECK.due("op(" + kind + ")", x.op(kind), 1);
                }
            });
            refused(state, new int[] {1, 1, 1}, CountingRegex.FULL);
        }
    }

    /** "the cost top of the new leaf is greater than the free room"; "A cost equal to the free room is accepted." */
    private static void costAgainstRoom() {
        for (int taken = 1; taken <= 19; taken++) {
            int used = taken;
            int free = 20 - taken;
            CHECK.at("free room " + free);
            State state = new State("free room " + free, 4, 20, x -> x.leaf(1, 1, used));
            refused(state, new int[] {2, 0, free + 1}, CountingRegex.FULL);
            refused(state, new int[] {2, free + 1, free + 1}, CountingRegex.FULL);
            refused(state, new int[] {2, free + 1, ENDLESS}, CountingRegex.FULL);
            fits(state, 0, free, 0);
            fits(state, free, free, 0);
            fits(state, free, ENDLESS, 0);
            if (free > 1) {
                fits(state, 0, free - 1, 1);
                fits(state, free - 1, ENDLESS, 1);
            }
        }
        CHECK.at("no free room");
        refused(State.noRoomLeft(), new int[] {1, 0, 1}, CountingRegex.FULL);
        refused(State.noRoomLeft(), new int[] {1, 1, 1}, CountingRegex.FULL);
        refused(State.noRoomLeft(), new int[] {1, 0, ENDLESS}, CountingRegex.FULL);
        refused(State.noRoomLeft(), new int[] {1, 1, ENDLESS}, CountingRegex.FULL);
    }

    private static void fits(State state, int least, int most, int roomAfter) {
        CountingRegex x = state.make();
        CHECK.due(call(new int[] {2, least, most}), x.leaf(2, least, most), 1);
        CHECK.due("room()", x.room(), roomAfter);
        CHECK.due("height()", x.height(), 2);
        CHECK.due("size(1)", x.size(1), 0);
    }

    /** The same edge for every whole room from 8 to 224, on the first leaf. */
    private static void everyRoom() {
        for (int cells = 8; cells <= 224; cells++) {
            CHECK.at("whole room " + cells);
            CountingRegex x = new CountingRegex(2, cells);
            CHECK.due("one cell too many", x.leaf(1, 0, cells + 1), CountingRegex.FULL);
            CHECK.due("one cell too many, endless", x.leaf(1, cells + 1, ENDLESS), CountingRegex.FULL);
            CHECK.due("one cell less than all", x.leaf(1, cells - 1, ENDLESS), 0);
            CHECK.due("room()", x.room(), 1);
            CHECK.due("two cells where one is free", x.leaf(1, 2, ENDLESS), CountingRegex.FULL);
            CHECK.due("the last cell", x.leaf(1, 0, ENDLESS), 1);
            CHECK.due("room()", x.room(), 0);
            x.clear();
            CHECK.due("all cells", x.leaf(1, 0, cells), 0);
            CHECK.due("room()", x.room(), 0);
        }
    }

    /** Both reasons for FULL, each alone and both at once. */
    private static void fullAlone() {
        CHECK.at("full");
        refused(State.noLeafLeft(), new int[] {1, 1, 1}, CountingRegex.FULL);
        refused(State.noLeafLeft(), new int[] {1, 1, 21}, CountingRegex.FULL);
        refused(State.noRoomLeft(), new int[] {1, 1, 1}, CountingRegex.FULL);
        refused(State.nothingLeft(), new int[] {1, 1, 1}, CountingRegex.FULL);
        refused(State.nothingLeft(), new int[] {1, MAX, ENDLESS}, CountingRegex.FULL);
    }

    /** "This holds for every int value; a very large bound is simply a cost greater than the free room." */
    private static void everyIntValue() {
        CHECK.at("very large bounds");
        for (int[] given : HUGE) {
            for (State state : State.building()) {
                refused(state, given, CountingRegex.FULL);
            }
            answers(given[0], given[1], given[2], CountingRegex.FULL);
        }
        for (int bit = 8; bit < 31; bit++) {
            answers(1, 1 << bit, ENDLESS, CountingRegex.FULL);
            answers(1, 0, 1 << bit, CountingRegex.FULL);
            answers(1, (1 << bit) - 1, (1 << bit) + 1, CountingRegex.FULL);
        }
    }

    /** "A refused call uses up no number and no room." */
    private static void refusedLeavesNoNumberAndNoRoom() {
        CHECK.at("refused leaves between accepted ones");
        CountingRegex x = new CountingRegex(12, 24);
        for (int p = 0; p < 12; p++) {
            for (int[][] table : new int[][][] {BAD, WORSE, HUGE}) {
                for (int[] given : table) {
                    CHECK.due(call(given) + " is refused", x.leaf(given[0], given[1], given[2]) < 0, true);
                }
            }
            CHECK.due("room()", x.room(), 24 - 2 * p);
            CHECK.due("height()", x.height(), p);
            CHECK.due("the next number", x.leaf(1 << p % 8, 1, 2), p);
        }
        CHECK.due("room()", x.room(), 0);
    }

    /** "The items already on the stack, the earlier leaves, the phase, the length and the last hit do not change." */
    private static void acceptedLeafKeepsTheRest() {
        CHECK.at("what a leaf keeps");
        CountingRegex x = new CountingRegex(12, 224);
        for (int p = 0; p < 12; p++) {
            x.leaf(1 << p % 8, p % 2, p + 1);
            CHECK.due("phase()", x.phase(), CountingRegex.BUILDING);
            CHECK.due("length()", x.length(), 0);
            CHECK.due("lastHit()", x.lastHit(), -1);
            CHECK.due("accepts()", x.accepts(), p % 2 == 0);
            for (int letter = 0; letter <= 7; letter++) {
                CHECK.due("allowed(" + letter + ")", x.allowed(letter), letter == p % 8);
            }
        }
        // Joined from above, so that every item below shows what it has been all along.
        for (int p = 10; p >= 0; p--) {
            x.op(CountingRegex.ALT);
            CHECK.due("allowed(" + p % 8 + ")", x.allowed(p % 8), true);
        }
        for (int p = 0; p < 8; p++) {
            x.begin(CountingRegex.WHOLE);
            int longest = p < 4 ? p + 9 : p + 1;
            CHECK.due("feed(" + p + ", 16)", x.feed(p, 16), longest);
            CHECK.due("lastHit()", x.lastHit(), longest);
        }
    }
}
