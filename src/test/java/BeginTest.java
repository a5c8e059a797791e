/** Promise 5: begin. */
public final class BeginTest {
    private static final Check CHECK = new Check();

    public static void main(String[] args) {
        badModes();
        notOneItem();
        beginsFromEveryPhase();
        refusalKeepsTheInput();
        startsAgain();
        firstHit();
        CHECK.finish();
    }

    private static void badModes() {
        CHECK.at("bad modes");
        CountingRegex x = new CountingRegex(2, 20);
        for (int height = 0; height <= 2; height++) {
            for (int mode : new int[] {Integer.MIN_VALUE, -2, -1, 0, 3, 4, Integer.MAX_VALUE}) {
                CHECK.due("begin(" + mode + ")", x.begin(mode), CountingRegex.BAD);
                CHECK.due("phase()", x.phase(), CountingRegex.BUILDING);
                CHECK.due("lastHit()", x.lastHit(), -1);
            }
            x.leaf(1, 0, 2);
        }
    }

    private static void notOneItem() {
        CHECK.at("not one item");
        CountingRegex x = new CountingRegex(3, 20);
        for (int height = 0; height <= 3; height++) {
            for (int mode = CountingRegex.WHOLE; mode <= CountingRegex.SEARCH && height != 1; mode++) {
                CHECK.due("begin(" + mode + ")", x.begin(mode), CountingRegex.NOT_ONE);
                CHECK.due("phase()", x.phase(), CountingRegex.BUILDING);
                CHECK.due("lastHit()", x.lastHit(), -1);
            }
            x.leaf(1, 0, 2);
        }
        CHECK.due("height()", x.height(), 3);
        x.op(CountingRegex.CAT);
        CHECK.due("begin(WHOLE)", x.begin(CountingRegex.WHOLE), CountingRegex.NOT_ONE);
        x.op(CountingRegex.ALT);
        CHECK.due("begin(WHOLE)", x.begin(CountingRegex.WHOLE), CountingRegex.OK);
    }

    private static void beginsFromEveryPhase() {
        for (int from = CountingRegex.BUILDING; from <= CountingRegex.SEARCH; from++) {
            for (int mode = CountingRegex.WHOLE; mode <= CountingRegex.SEARCH; mode++) {
                CHECK.at("begin(" + mode + ") from phase " + from);
                CountingRegex x = new CountingRegex(3, 20);
                x.leaf(1, 2, 6);
                x.leaf(2, 0, 3);
                x.op(CountingRegex.CAT);
                if (from != CountingRegex.BUILDING) {
                    x.begin(from);
                    x.feed(0, 4);
                }
                CHECK.due("begin", x.begin(mode), CountingRegex.OK);
                freshInput(x, mode);
                CHECK.due("room()", x.room(), 11);
            }
        }
    }

    private static void freshInput(CountingRegex x, int mode) {
        CHECK.due("phase()", x.phase(), mode);
        CHECK.due("height()", x.height(), 1);
        CHECK.due("length()", x.length(), 0);
        CHECK.due("lastHit()", x.lastHit(), -1);
        CHECK.due("accepts()", x.accepts(), false);
        CHECK.due("allowed(0)", x.allowed(0), true);
        CHECK.due("allowed(1)", x.allowed(1), false);
        for (int p = 0; p < 2; p++) {
            CHECK.due("size(" + p + ")", x.size(p), 0);
            for (int v = 1; v <= 6; v++) {
                CHECK.due("holds(" + p + ", " + v + ")", x.holds(p, v), false);
            }
        }
        CHECK.due("feed(0, 3)", x.feed(0, 3), 2);
        CHECK.due("size(0)", x.size(0), mode == CountingRegex.WHOLE ? 1 : 3);
        CHECK.due("feed(1, 1)", x.feed(1, 1), 1);
        CHECK.due("feed(0, 1)", x.feed(0, 1), 0);
        CHECK.due("size(0)", x.size(0), mode == CountingRegex.WHOLE ? 0 : 1);
    }

    private static void refusalKeepsTheInput() {
        for (int mode = CountingRegex.WHOLE; mode <= CountingRegex.SEARCH; mode++) {
            CHECK.at("refused begin in phase " + mode);
            CountingRegex x = new CountingRegex(3, 20);
            x.leaf(1, 2, 6);
            x.begin(mode);
            x.feed(0, 3);
            CHECK.due("begin(0)", x.begin(0), CountingRegex.BAD);
            CHECK.due("begin(3)", x.begin(3), CountingRegex.BAD);
            CHECK.due("phase()", x.phase(), mode);
            CHECK.due("length()", x.length(), 3);
            CHECK.due("lastHit()", x.lastHit(), 3);
            CHECK.due("largest(0)", x.largest(0), 3);
            CHECK.due("accepts()", x.accepts(), true);
        }
    }

    private static void startsAgain() {
        CHECK.at("many inputs for one expression");
        CountingRegex x = new CountingRegex(3, 20);
        x.leaf(1, 2, 3);
        for (int round = 0; round < 20; round++) {
            CHECK.due("begin(WHOLE)", x.begin(CountingRegex.WHOLE), CountingRegex.OK);
            CHECK.due("feed(0, 4)", x.feed(0, 4), 2);
            CHECK.due("lastHit()", x.lastHit(), 3);
            CHECK.due("size(0)", x.size(0), 0);
            CHECK.due("begin(SEARCH)", x.begin(CountingRegex.SEARCH), CountingRegex.OK);
            CHECK.due("feed(0, 4)", x.feed(0, 4), 3);
            CHECK.due("lastHit()", x.lastHit(), 4);
            CHECK.due("size(0)", x.size(0), 3);
        }
        CHECK.due("room()", x.room(), 17);
    }

    private static void firstHit() {
        for (int least = 0; least <= 1; least++) {
            for (int mode = CountingRegex.WHOLE; mode <= CountingRegex.SEARCH; mode++) {
                CHECK.at("empty input, least " + least + ", mode " + mode);
                CountingRegex x = new CountingRegex(3, 20);
                x.leaf(1, least, 2);
                x.begin(mode);
                CHECK.due("lastHit()", x.lastHit(), least == 0 ? 0 : -1);
                CHECK.due("accepts()", x.accepts(), least == 0);
                x.feed(0, 2);
                x.begin(mode);
                CHECK.due("lastHit()", x.lastHit(), least == 0 ? 0 : -1);
            }
        }
    }
}
