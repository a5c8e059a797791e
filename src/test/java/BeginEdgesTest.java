/** The edges that promise 5 names: begin. */
public final class BeginEdgesTest {
    private static final Check CHECK = new Check();
    private static final int[] BAD_MODES = {
        Integer.MIN_VALUE, Integer.MIN_VALUE + 1, -256, -2, -1, 0, 3, 4, 255, 257, 258, (1 << 16) + 1, (1 << 30) + 2,
        Integer.MAX_VALUE - 1, Integer.MAX_VALUE
    };

    public static void main(String[] args) {
        badModes();
        goodModes();
        notOne();
        oneAgain();
        badBeforeNotOne();
        fromEveryState();
        lastHitOfTheEmptyInput();
        sameModeOrOther();
        stackLeavesAndRoomStay();
        manyTimes();
        CHECK.finish();
    }

    private static void refused(State state, int mode, int want) {
        Unchanged.refused(CHECK, state, "begin(" + mode + ")", x -> x.begin(mode), want);
    }

    /** "mode is neither WHOLE nor SEARCH: BAD", in every phase; "leaves any running input as it was". */
    private static void badModes() {
        CHECK.at("bad modes");
        for (State state : State.all()) {
            for (int mode : BAD_MODES) {
                refused(state, mode, CountingRegex.BAD);
            }
        }
    }

    /** The two modes between the bad ones. */
    private static void goodModes() {
        CHECK.at("good modes");
        for (int mode = -3; mode <= 6; mode++) {
            CountingRegex x = State.items(1).make();
            boolean good = mode == 1 || mode == 2;
            CHECK.due("begin(" + mode + ")", x.begin(mode), good ? CountingRegex.OK : CountingRegex.BAD);
            CHECK.due("phase()", x.phase(), good ? mode : CountingRegex.BUILDING);
        }
    }

    /** "The stack does not have exactly one item: NOT_ONE": with 0 and with 2 or more. */
    private static void notOne() {
        CHECK.at("not one item");
        for (int items = 0; items <= 12; items++) {
            for (int mode = CountingRegex.WHOLE; mode <= CountingRegex.SEARCH; mode++) {
                if (items != 1) {
                    refused(State.items(items), mode, CountingRegex.NOT_ONE);
                }
            }
        }
        for (int mode = CountingRegex.WHOLE; mode <= CountingRegex.SEARCH; mode++) {
            refused(State.compoundItems(), mode, CountingRegex.NOT_ONE);
            refused(State.noLeafLeft(), mode, CountingRegex.NOT_ONE);
            refused(State.noRoomLeft(), mode, CountingRegex.NOT_ONE);
            refused(new State("an object cleared of its input", 4, 20, x -> {
                x.leaf(1, 0, 2);
                x.begin(CountingRegex.WHOLE);
                x.feed(0, 1);
                x.clear();
            }), mode, CountingRegex.NOT_ONE);
        }
    }

    /** Exactly one item, of however many leaves. */
    private static void oneAgain() {
        for (int items = 1; items <= 12; items++) {
            for (int mode = CountingRegex.WHOLE; mode <= CountingRegex.SEARCH; mode++) {
                CHECK.at(items + " items joined to one");
                CountingRegex x = State.items(items).make();
                for (int height = items; height > 1; height--) {
                    CHECK.due("begin(" + mode + ")", x.begin(mode), CountingRegex.NOT_ONE);
                    x.op(CountingRegex.CAT);
                }
                CHECK.due("begin(" + mode + ")", x.begin(mode), CountingRegex.OK);
                CHECK.due("phase()", x.phase(), mode);
                CHECK.due("height()", x.height(), 1);
            }
        }
    }

    /** Both reasons at once: the first decides. */
    private static void badBeforeNotOne() {
        CHECK.at("bad before not one");
        for (int mode : BAD_MODES) {
            refused(State.items(0), mode, CountingRegex.BAD);
            refused(State.items(2), mode, CountingRegex.BAD);
            refused(State.items(12), mode, CountingRegex.BAD);
        }
    }

    /** "It is allowed in every phase"; "the input becomes empty, the length becomes 0, no pair is held". */
    private static void fromEveryState() {
        for (State state : State.all()) {
            if (state.make().height() != 1) {
                continue;
            }
            for (int mode = CountingRegex.WHOLE; mode <= CountingRegex.SEARCH; mode++) {
                CHECK.at("begin(" + mode + ") on " + state.name());
                CountingRegex x = state.make();
                int room = x.room();
                CHECK.due("begin", x.begin(mode), CountingRegex.OK);
                CHECK.due("phase()", x.phase(), mode);
                CHECK.due("length()", x.length(), 0);
                CHECK.due("height()", x.height(), 1);
                CHECK.due("room()", x.room(), room);
                CHECK.due("lastHit()", x.lastHit(), x.accepts() ? 0 : -1);
                for (int p = 0; p < State.leavesOf(x); p++) {
                    CHECK.due("size(" + p + ")", x.size(p), 0);
                    CHECK.due("largest(" + p + ")", x.largest(p), 0);
                    CHECK.due("smallest(" + p + ")", x.smallest(p), 0);
                }
                CHECK.due("feed(0, 16)", x.feed(0, 16) >= 0, true);
                CHECK.due("length()", x.length(), 16);
            }
        }
    }

    /** "the last hit becomes 0 if the empty input is accepted and -1 if not", whatever it was before. */
    private static void lastHitOfTheEmptyInput() {
        for (int least = 0; least <= 1; least++) {
            for (int from = CountingRegex.BUILDING; from <= CountingRegex.SEARCH; from++) {
                for (int mode = CountingRegex.WHOLE; mode <= CountingRegex.SEARCH; mode++) {
                    for (int letter = 0; letter <= 1; letter++) {
                        CHECK.at("begin(" + mode + ") from " + from + ", least " + least + ", after letter " + letter);
                        CountingRegex x = new CountingRegex(2, 20);
                        x.leaf(1, least, 3);
                        x.begin(from);
                        x.feed(letter, 2);
                        x.begin(mode);
                        CHECK.due("lastHit()", x.lastHit(), least == 0 ? 0 : -1);
                        CHECK.due("accepts()", x.accepts(), least == 0);
                        x.feed(1, 1);
                        boolean hit = least == 0 && mode == CountingRegex.SEARCH;
                        CHECK.due("lastHit() after a letter", x.lastHit(), hit ? 1 : least == 0 ? 0 : -1);
                    }
                }
            }
        }
    }

    /** "The mode is free to be the same as the current phase or the other one." */
    private static void sameModeOrOther() {
        for (int first = CountingRegex.WHOLE; first <= CountingRegex.SEARCH; first++) {
            for (int second = CountingRegex.WHOLE; second <= CountingRegex.SEARCH; second++) {
                int before = first;
                int mode = second;
                State twice = new State("begin(" + before + ")", 4, 20, x -> {
                    x.leaf(1, 2, 3);
                    x.begin(before);
                    x.feed(0, 5);
                    CHECK.due("begin(" + mode + ") after begin(" + before + ")", x.begin(mode), CountingRegex.OK);
                });
                State once = new State("begin(" + mode + ")", 4, 20, x -> {
                    x.leaf(1, 2, 3);
                    x.begin(mode);
                });
                for (Future future : Future.ALL) {
                    future.same(CHECK, "begin(" + before + ") and begin(" + mode + ")", twice.make(), once.make());
                }
            }
        }
    }

    /** "The stack, the leaves and the room stay", also where none is left. */
    private static void stackLeavesAndRoomStay() {
        CHECK.at("what begin keeps");
        CountingRegex x = State.nothingLeft().make();
        for (int round = 0; round < 6; round++) {
            CHECK.due("begin", x.begin(1 + round % 2), CountingRegex.OK);
            CHECK.due("height()", x.height(), 1);
            CHECK.due("room()", x.room(), 0);
            CHECK.due("size(1)", x.size(1), 0);
            CHECK.due("size(2)", x.size(2), -1);
            CHECK.due("feed(0, 3)", x.feed(0, 3), 1);
        }
    }

    /** An input of the greatest length is no hindrance to beginning again. */
    private static void manyTimes() {
        for (int mode = CountingRegex.WHOLE; mode <= CountingRegex.SEARCH; mode++) {
            CHECK.at("begin(" + mode + ") at the greatest length");
            CountingRegex x = State.fed(mode, CountingRegex.MAX_TEXT).make();
            CHECK.due("feed(0, 1)", x.feed(0, 1), CountingRegex.FULL);
            for (int round = 0; round < 3; round++) {
                CHECK.due("begin", x.begin(mode), CountingRegex.OK);
                for (int n = 0; n < 250; n++) {
                    CHECK.due("feed(0, 16) is accepted", x.feed(0, 16) >= 0, true);
                }
                CHECK.due("length()", x.length(), CountingRegex.MAX_TEXT);
                CHECK.due("feed(0, 1)", x.feed(0, 1), CountingRegex.FULL);
            }
        }
    }
}
