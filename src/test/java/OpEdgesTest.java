/** The edges that promise 4 names: op. */
public final class OpEdgesTest {
    private static final Check CHECK = new Check();
    private static final int[] BAD_KINDS = {
        Integer.MIN_VALUE, Integer.MIN_VALUE + 1, -256, -5, -2, -1, 0, 6, 7, 8, 255, 257, 1 << 16, (1 << 30) + 1,
        Integer.MAX_VALUE - 1, Integer.MAX_VALUE
    };
    private static final int[] JOINING = {CountingRegex.CAT, CountingRegex.ALT};
    private static final int[] WRAPPING = {CountingRegex.STAR, CountingRegex.PLUS, CountingRegex.OPT};

    public static void main(String[] args) {
        wrongPhase();
        badKinds();
        goodKinds();
        joiningTooFew();
        wrappingTooFew();
        wrappingWithoutRoom();
        joiningWithoutRoom();
        heightsAndRoom();
        itemsFurtherDown();
        leavesKeepTheirNumbers();
        emptyItems();
        wrappedManyTimes();
        CHECK.finish();
    }

    private static void refused(State state, int kind, int want) {
        Unchanged.refused(CHECK, state, "op(" + kind + ")", x -> x.op(kind), want);
    }

    /** "The phase is not BUILDING: WRONG_PHASE", before a bad kind, too few items and no room. */
    private static void wrongPhase() {
        CHECK.at("wrong phase before all else");
        for (State state : State.matching()) {
            for (int kind = CountingRegex.CAT; kind <= CountingRegex.OPT; kind++) {
                refused(state, kind, CountingRegex.WRONG_PHASE);
            }
            refused(state, 0, CountingRegex.WRONG_PHASE);
            refused(state, 6, CountingRegex.WRONG_PHASE);
            refused(state, Integer.MIN_VALUE, CountingRegex.WRONG_PHASE);
            refused(state, Integer.MAX_VALUE, CountingRegex.WRONG_PHASE);
        }
    }

    /** "kind is below 1 or above 5: BAD", before too few items and before no room. */
    private static void badKinds() {
        CHECK.at("bad kinds");
        for (State state : State.building()) {
            for (int kind : BAD_KINDS) {
                refused(state, kind, CountingRegex.BAD);
            }
        }
    }

    /** The kinds on the good side of both edges. */
    private static void goodKinds() {
        CHECK.at("good kinds");
        for (int kind = CountingRegex.CAT; kind <= CountingRegex.OPT; kind++) {
            boolean joins = kind <= CountingRegex.ALT;
            CountingRegex x = State.items(3).make();
            CHECK.due("op(" + kind + ")", x.op(kind), joins ? 2 : 3);
            CHECK.due("height()", x.height(), joins ? 2 : 3);
            CHECK.due("room()", x.room(), joins ? 54 : 53);
        }
    }

    /** "CAT or ALT with fewer than 2 items on the stack: TOO_FEW": with 0 and 1, but not with 2. */
    private static void joiningTooFew() {
        CHECK.at("too few to join");
        State roomless = new State("one item and no room", 4, 8, x -> x.leaf(1, 1, 8));
        for (int kind : JOINING) {
            refused(State.items(0), kind, CountingRegex.TOO_FEW);
            refused(State.items(1), kind, CountingRegex.TOO_FEW);
            refused(State.emptyItem(), kind, CountingRegex.TOO_FEW);
            // One item is too few, however many leaves it has and however little room is free.
            refused(State.nothingLeft(), kind, CountingRegex.TOO_FEW);
            refused(roomless, kind, CountingRegex.TOO_FEW);
            CountingRegex x = State.items(2).make();
            CHECK.due("op(" + kind + ") on two items", x.op(kind), 1);
            CHECK.due("op(" + kind + ") on one item", x.op(kind), CountingRegex.TOO_FEW);
        }
    }

    /**
     * ".. or STAR, PLUS or OPT with none: TOO_FEW": with 0, but not with 1. An empty stack has
     * all of its room free, so this reason and the next one never apply at once.
     */
    private static void wrappingTooFew() {
        CHECK.at("too few to wrap");
        State cleared = new State("a cleared object", 4, 8, x -> {
            x.leaf(1, 1, 8);
            x.clear();
        });
        for (int kind : WRAPPING) {
            refused(State.items(0), kind, CountingRegex.TOO_FEW);
            refused(cleared, kind, CountingRegex.TOO_FEW);
            CountingRegex x = State.items(1).make();
            CHECK.due("op(" + kind + ") on one item", x.op(kind), 1);
        }
    }

    /** "STAR, PLUS or OPT with no free room: FULL": with 0 cells, but not with 1. */
    private static void wrappingWithoutRoom() {
        for (int cells : new int[] {8, 9, 224}) {
            for (int kind : WRAPPING) {
                CHECK.at("op(" + kind + ") with little of " + cells + " cells left");
                refused(new State("no free room", 4, cells, x -> x.leaf(1, 1, cells)), kind, CountingRegex.FULL);
                refused(new State("the last cell taken", 4, cells, x -> {
                    x.leaf(1, 1, cells - 1);
                    CHECK.due("op(" + kind + ") with one cell", x.op(kind), 1);
                    CHECK.due("room()", x.room(), 0);
                }), kind, CountingRegex.FULL);
                CountingRegex x = new CountingRegex(4, cells);
                x.leaf(1, 1, cells - 2);
                CHECK.due("op(" + kind + ") with two cells", x.op(kind), 1);
                CHECK.due("room()", x.room(), 1);
                CHECK.due("op(" + kind + ") with one cell", x.op(kind), 1);
                CHECK.due("room()", x.room(), 0);
                CHECK.due("op(" + kind + ") with no cell", x.op(kind), CountingRegex.FULL);
            }
        }
        CHECK.at("no room on several items");
        for (int kind : WRAPPING) {
            refused(State.noRoomLeft(), kind, CountingRegex.FULL);
            refused(State.nothingLeft(), kind, CountingRegex.FULL);
        }
    }

    /** "these two are accepted even when no room is free". */
    private static void joiningWithoutRoom() {
        for (int kind : JOINING) {
            CHECK.at("op(" + kind + ") without room");
            CountingRegex x = new CountingRegex(12, 12);
            for (int p = 0; p < 12; p++) {
                x.leaf(1 << p % 2, 1, 1);
            }
            CHECK.due("room()", x.room(), 0);
            for (int height = 11; height >= 1; height--) {
                CHECK.due("op(" + kind + ")", x.op(kind), height);
                CHECK.due("room()", x.room(), 0);
            }
            CHECK.due("op(" + kind + ")", x.op(kind), CountingRegex.TOO_FEW);
            CHECK.due("begin(WHOLE)", x.begin(CountingRegex.WHOLE), CountingRegex.OK);
            boolean cat = kind == CountingRegex.CAT;
            for (int n = 1; n <= 13; n++) {
                CHECK.due("letter " + n, x.feed((n + 1) % 2, 1), n == (cat ? 12 : 1) ? 1 : 0);
            }
        }
    }

    /** "The answer is the number of items on the stack afterwards", from every height. */
    private static void heightsAndRoom() {
        for (int height = 1; height <= 12; height++) {
            for (int kind = CountingRegex.CAT; kind <= CountingRegex.OPT; kind++) {
                CHECK.at("op(" + kind + ") on " + height + " items");
                boolean joins = kind <= CountingRegex.ALT;
                if (joins && height == 1) {
                    continue;
                }
                CountingRegex x = State.items(height).make();
                int after = joins ? height - 1 : height;
                CHECK.due("op", x.op(kind), after);
                CHECK.due("height()", x.height(), after);
                CHECK.due("room()", x.room(), 60 - 2 * height - (joins ? 0 : 1));
                CHECK.due("phase()", x.phase(), CountingRegex.BUILDING);
                CHECK.due("length()", x.length(), 0);
                CHECK.due("lastHit()", x.lastHit(), -1);
            }
        }
    }

    /** "Items further down .. do not change": a joining reaches two items down, a wrapping one. */
    private static void itemsFurtherDown() {
        for (int kind = CountingRegex.CAT; kind <= CountingRegex.OPT; kind++) {
            CHECK.at("below op(" + kind + ")");
            CountingRegex x = new CountingRegex(12, 60);
            x.leaf(1, 2, 2);
            x.leaf(2, 1, 1);
            x.leaf(4, 1, 1);
            x.leaf(8, 1, 1);
            x.op(kind);
            int height = kind <= CountingRegex.ALT ? 3 : 4;
            CHECK.due("height()", x.height(), height);
            // ALT of all shows each item alone.
            for (int joins = 1; joins < height; joins++) {
                x.op(CountingRegex.ALT);
            }
            CHECK.due("accepts()", x.accepts(), kind == CountingRegex.STAR || kind == CountingRegex.OPT);
            wholeHits(x, 0, 3, 1);
            wholeHits(x, 1, 3, 1);
            wholeHits(x, 2, 3, kind == CountingRegex.CAT ? 0 : 1);
            int third = kind == CountingRegex.STAR || kind == CountingRegex.PLUS ? 3 : 1;
            wholeHits(x, 3, 3, kind == CountingRegex.CAT ? 0 : third);
        }
    }

    private static void wholeHits(CountingRegex x, int letter, int times, int want) {
        x.begin(CountingRegex.WHOLE);
        CHECK.due("feed(" + letter + ", " + times + ")", x.feed(letter, times), want);
    }

    /** ".. the leaves and their numbers .. do not change": also those within larger items. */
    private static void leavesKeepTheirNumbers() {
        CHECK.at("numbers within larger items");
        CountingRegex x = new CountingRegex(4, 60);
        x.leaf(1, 1, 3);
        x.leaf(2, 1, 4);
        x.op(CountingRegex.CAT);
        CHECK.due("the next number", x.leaf(4, 1, 5), 2);
        x.op(CountingRegex.STAR);
        x.op(CountingRegex.ALT);
        CHECK.due("the next number", x.leaf(8, 1, 6), 3);
        x.op(CountingRegex.CAT);
        x.op(CountingRegex.PLUS);
        CHECK.due("a fifth leaf", x.leaf(8, 1, 1), CountingRegex.FULL);
        x.begin(CountingRegex.WHOLE);
        // Each letter is in the class of the leaf of the same number alone.
        for (int letter : new int[] {0, 1, 3, 2}) {
            x.feed(letter, 1);
            for (int p = 0; p < 4; p++) {
                CHECK.due("size(" + p + ") after letter " + letter, x.size(p), p == letter ? 1 : 0);
            }
            CHECK.due("size(4)", x.size(4), -1);
        }
    }

    /** Items with and without the empty trace under every operator. */
    private static void emptyItems() {
        for (int least = 0; least <= 1; least++) {
            for (int kind : WRAPPING) {
                CHECK.at("op(" + kind + ") on a leaf of least " + least);
                CountingRegex x = new CountingRegex(2, 20);
                x.leaf(1, least, 2);
                x.op(kind);
                boolean empty = least == 0 || kind != CountingRegex.PLUS;
                CHECK.due("accepts()", x.accepts(), empty);
                x.begin(CountingRegex.WHOLE);
                CHECK.due("lastHit()", x.lastHit(), empty ? 0 : -1);
                CHECK.due("feed(0, 5)", x.feed(0, 5), kind == CountingRegex.OPT ? 2 : 5);
                x.begin(CountingRegex.SEARCH);
                CHECK.due("feed(1, 5)", x.feed(1, 5), empty ? 5 : 0);
            }
        }
    }

    /** An item wrapped as often as there is room stands for what it stood for after the first time. */
    private static void wrappedManyTimes() {
        for (int kind : WRAPPING) {
            CHECK.at("op(" + kind + ") 222 times");
            CountingRegex x = new CountingRegex(2, 224);
            x.leaf(1, 2, 2);
            for (int room = 221; room >= 0; room--) {
                CHECK.due("op", x.op(kind), 1);
                CHECK.due("room()", x.room(), room);
            }
            CHECK.due("op without room", x.op(kind), CountingRegex.FULL);
            CHECK.due("accepts()", x.accepts(), kind != CountingRegex.PLUS);
            x.begin(CountingRegex.WHOLE);
            CHECK.due("feed(0, 9)", x.feed(0, 9), kind == CountingRegex.OPT ? 1 : 4);
        }
    }
}
