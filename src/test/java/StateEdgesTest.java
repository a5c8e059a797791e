/** The edges that promises 7 to 11 name: phase, height, room, length and lastHit. */
public final class StateEdgesTest {
    private static final Check CHECK = new Check();

    public static void main(String[] args) {
        phaseStaysWhenRefused();
        phases();
        heights();
        oneItemWhileMatching();
        roomFromAllToNone();
        roomOfEveryCost();
        roomInEveryPhase();
        roomComesBackOnlyByClear();
        lengths();
        noLengthWhileBuilding();
        noHitWhileBuilding();
        noHitAtAll();
        hitOfTheEmptyInput();
        greatestHitAndNotTheCurrentOne();
        hitAtTheGreatestLength();
        askingChangesNothing();
        CHECK.finish();
    }

    /** "phase() answers the phase": only an accepted begin and clear change it. */
    private static void phaseStaysWhenRefused() {
        for (State state : State.all()) {
            CHECK.at("phase of " + state.name());
            CountingRegex x = state.make();
            int phase = x.phase();
            boolean building = phase == CountingRegex.BUILDING;
            x.begin(0);
            x.begin(3);
            x.feed(8, 1);
            x.op(6);
            x.leaf(0, 1, 1);
            CHECK.due("phase() after refused calls", x.phase(), phase);
            if (building) {
                x.feed(0, 1);
                x.leaf(1, 1, 1);
            } else {
                x.op(CountingRegex.STAR);
                x.leaf(1, 1, 1);
                x.feed(0, 1);
            }
            CHECK.due("phase()", x.phase(), phase);
            x.clear();
            CHECK.due("phase() after clear", x.phase(), CountingRegex.BUILDING);
        }
    }

    /** "BUILDING, WHOLE or SEARCH": all three, and each from each. */
    private static void phases() {
        CHECK.at("phases");
        CountingRegex x = State.items(1).make();
        CHECK.due("phase()", x.phase(), 0);
        for (int mode : new int[] {1, 1, 2, 2, 1, 2}) {
            x.begin(mode);
            CHECK.due("phase()", x.phase(), mode);
            x.feed(0, 16);
            CHECK.due("phase() while fed", x.phase(), mode);
        }
        x.clear();
        CHECK.due("phase()", x.phase(), 0);
    }

    /** "0 if it is empty", and up to one item for each of twelve leaves. */
    private static void heights() {
        CHECK.at("heights");
        CountingRegex x = new CountingRegex(12, 60);
        CHECK.due("height()", x.height(), 0);
        for (int height = 1; height <= 12; height++) {
            x.leaf(1, 1, 1);
            CHECK.due("height()", x.height(), height);
        }
        x.leaf(1, 1, 1);
        CHECK.due("height() after a refused leaf", x.height(), 12);
        for (int height = 11; height >= 1; height--) {
            x.op(CountingRegex.STAR);
            CHECK.due("height() after STAR", x.height(), height + 1);
            x.op(CountingRegex.ALT);
            CHECK.due("height() after ALT", x.height(), height);
        }
        x.op(CountingRegex.ALT);
        CHECK.due("height() after a refused ALT", x.height(), 1);
        x.clear();
        CHECK.due("height()", x.height(), 0);
    }

    /** "always 1 in phases WHOLE and SEARCH". */
    private static void oneItemWhileMatching() {
        for (State state : State.matching()) {
            CHECK.at("height of " + state.name());
            CountingRegex x = state.make();
            CHECK.due("height()", x.height(), 1);
            x.leaf(1, 1, 1);
            x.op(CountingRegex.CAT);
            x.feed(0, 1);
            CHECK.due("height()", x.height(), 1);
        }
    }

    /** "the whole room less the costs of all": cell by cell from all to none. */
    private static void roomFromAllToNone() {
        for (int cells : new int[] {8, 9, 100, 223, 224}) {
            CHECK.at("room of " + cells);
            CountingRegex x = new CountingRegex(12, cells);
            CHECK.due("room()", x.room(), cells);
            x.leaf(1, 1, 1);
            for (int free = cells - 1; free > 0; free--) {
                CHECK.due("room()", x.room(), free);
                x.op(CountingRegex.STAR + free % 3);
            }
            CHECK.due("room()", x.room(), 0);
            x.op(CountingRegex.STAR);
            x.leaf(1, 1, 1);
            CHECK.due("room() after refused calls", x.room(), 0);
        }
    }

    /** "A leaf p costs top(p) cells; each STAR, PLUS and OPT costs 1 cell; CAT and ALT cost nothing." */
    private static void roomOfEveryCost() {
        for (int least = 0; least <= 224; least++) {
            CHECK.at("cost of least " + least);
            CountingRegex x = new CountingRegex(2, 224);
            x.leaf(1, least, CountingRegex.UNBOUNDED);
            CHECK.due("room() with no upper bound", x.room(), 224 - Math.max(least, 1));
            x.clear();
            x.leaf(1, least, Math.max(least, 1));
            CHECK.due("room() with both bounds equal", x.room(), 224 - Math.max(least, 1));
            x.clear();
            x.leaf(1, least, 224);
            CHECK.due("room() with the greatest bound", x.room(), 0);
        }
        CHECK.at("costs of operators");
        int[][] kinds = {{CountingRegex.CAT, 0}, {CountingRegex.ALT, 0}, {CountingRegex.STAR, 1},
            {CountingRegex.PLUS, 1}, {CountingRegex.OPT, 1}};
        for (int[] kind : kinds) {
            CountingRegex x = State.items(2).make();
            x.op(kind[0]);
            CHECK.due("room() after op(" + kind[0] + ")", x.room(), 56 - kind[1]);
        }
    }

    /** "in every phase". */
    private static void roomInEveryPhase() {
        CHECK.at("room in every phase");
        CountingRegex x = new CountingRegex(4, 30);
        x.leaf(1, 3, 7);
        x.op(CountingRegex.PLUS);
        CHECK.due("room() in BUILDING", x.room(), 22);
        for (int mode = CountingRegex.WHOLE; mode <= CountingRegex.SEARCH; mode++) {
            x.begin(mode);
            CHECK.due("room() in phase " + mode, x.room(), 22);
            x.feed(0, 16);
            x.feed(1, 16);
            CHECK.due("room() in phase " + mode, x.room(), 22);
        }
    }

    /** "Room comes back only by clear." */
    private static void roomComesBackOnlyByClear() {
        for (State state : State.all()) {
            CHECK.at("room of " + state.name());
            CountingRegex x = state.make();
            int room = x.room();
            x.op(CountingRegex.CAT);
            x.op(CountingRegex.ALT);
            x.begin(CountingRegex.WHOLE);
            x.feed(0, 16);
            x.begin(CountingRegex.SEARCH);
            x.begin(CountingRegex.BUILDING);
            x.feed(1, 1);
            CHECK.due("room()", x.room(), room);
            x.clear();
            CHECK.due("room() after clear", x.room(), state.cells());
        }
    }

    /** "from 0 to MAX_TEXT". */
    private static void lengths() {
        for (int mode = CountingRegex.WHOLE; mode <= CountingRegex.SEARCH; mode++) {
            CHECK.at("lengths in phase " + mode);
            CountingRegex x = State.fed(mode, 0).make();
            for (int length = 0; length < CountingRegex.MAX_TEXT; length++) {
                CHECK.due("length()", x.length(), length);
                x.feed(length % 8, 1);
            }
            CHECK.due("length()", x.length(), 4000);
            x.feed(0, 1);
            CHECK.due("length() after a refused letter", x.length(), 4000);
            x.begin(mode);
            CHECK.due("length() after begin", x.length(), 0);
        }
    }

    /** "0 in phase BUILDING". */
    private static void noLengthWhileBuilding() {
        for (State state : State.building()) {
            CHECK.at("length of " + state.name());
            CountingRegex x = state.make();
            CHECK.due("length()", x.length(), 0);
            x.feed(0, 16);
            CHECK.due("length() after a refused letter", x.length(), 0);
        }
        for (State state : State.matching()) {
            CHECK.at("length of " + state.name() + " when cleared");
            CountingRegex x = state.make();
            x.clear();
            CHECK.due("length()", x.length(), 0);
        }
    }

    /** "In BUILDING it is -1", also when the uppermost item has the empty trace. */
    private static void noHitWhileBuilding() {
        for (State state : State.building()) {
            CHECK.at("last hit of " + state.name());
            CountingRegex x = state.make();
            CHECK.due("lastHit()", x.lastHit(), -1);
            x.feed(0, 1);
            x.op(CountingRegex.OPT);
            CHECK.due("lastHit()", x.lastHit(), -1);
        }
        CHECK.at("an item with the empty trace");
        CountingRegex x = new CountingRegex(2, 20);
        x.leaf(1, 0, 1);
        CHECK.due("accepts()", x.accepts(), true);
        CHECK.due("lastHit()", x.lastHit(), -1);
        x.begin(CountingRegex.SEARCH);
        x.feed(0, 5);
        CHECK.due("lastHit()", x.lastHit(), 5);
        x.clear();
        CHECK.due("lastHit() after clear", x.lastHit(), -1);
    }

    /** "or -1 if there was none". */
    private static void noHitAtAll() {
        for (int mode = CountingRegex.WHOLE; mode <= CountingRegex.SEARCH; mode++) {
            CHECK.at("no hit in phase " + mode);
            CountingRegex x = new CountingRegex(2, 224);
            x.leaf(1, 224, 224);
            x.begin(mode);
            CHECK.due("lastHit()", x.lastHit(), -1);
            for (int n = 1; n <= 223; n++) {
                x.feed(0, 1);
                CHECK.due("lastHit() at length " + n, x.lastHit(), -1);
            }
            x.feed(1, 16);
            CHECK.due("lastHit()", x.lastHit(), -1);
        }
    }

    /** "0 counts for the empty input". */
    private static void hitOfTheEmptyInput() {
        CHECK.at("the empty input");
        CountingRegex x = new CountingRegex(2, 20);
        x.leaf(1, 0, 1);
        x.begin(CountingRegex.WHOLE);
        CHECK.due("lastHit()", x.lastHit(), 0);
        x.feed(1, 16);
        CHECK.due("lastHit()", x.lastHit(), 0);
        x.begin(CountingRegex.WHOLE);
        x.feed(0, 1);
        CHECK.due("lastHit()", x.lastHit(), 1);
        x.feed(0, 1);
        CHECK.due("lastHit()", x.lastHit(), 1);
        x.begin(CountingRegex.WHOLE);
        CHECK.due("lastHit()", x.lastHit(), 0);
    }

    /** "the greatest length, since the last accepted begin, at which the input was accepted". */
    private static void greatestHitAndNotTheCurrentOne() {
        CHECK.at("the greatest hit");
        CountingRegex x = new CountingRegex(2, 20);
        x.leaf(1, 2, 3);
        x.begin(CountingRegex.SEARCH);
        x.feed(0, 9);
        CHECK.due("lastHit()", x.lastHit(), 9);
        x.begin(0);
        x.begin(3);
        CHECK.due("lastHit() after refused begins", x.lastHit(), 9);
        x.feed(1, 4);
        CHECK.due("lastHit()", x.lastHit(), 9);
        x.feed(0, 1);
        CHECK.due("lastHit()", x.lastHit(), 9);
        x.feed(0, 1);
        CHECK.due("lastHit()", x.lastHit(), 15);
        x.begin(CountingRegex.WHOLE);
        CHECK.due("lastHit() after begin", x.lastHit(), -1);
        x.feed(0, 16);
        CHECK.due("lastHit()", x.lastHit(), 3);
    }

    /** The greatest of all last hits, and the last hit that a full input keeps. */
    private static void hitAtTheGreatestLength() {
        for (int mode = CountingRegex.WHOLE; mode <= CountingRegex.SEARCH; mode++) {
            CHECK.at("hits up to the greatest length in phase " + mode);
            CountingRegex x = new CountingRegex(2, 20);
            x.leaf(1, 1, CountingRegex.UNBOUNDED);
            x.begin(mode);
            for (int length = 1; length <= CountingRegex.MAX_TEXT; length++) {
                x.feed(0, 1);
                CHECK.due("lastHit()", x.lastHit(), length);
            }
            x.feed(0, 1);
            CHECK.due("lastHit() after a refused letter", x.lastHit(), 4000);
            x.begin(mode);
            for (int n = 0; n < 249; n++) {
                x.feed(0, 16);
            }
            x.feed(0, 15);
            x.feed(1, 1);
            CHECK.due("length()", x.length(), 4000);
            CHECK.due("lastHit()", x.lastHit(), 3999);
            x.feed(0, 1);
            CHECK.due("lastHit() after a refused letter", x.lastHit(), 3999);
        }
    }

    /** "It changes nothing", said of each of these and of the other questions. */
    private static void askingChangesNothing() {
        CHECK.at("asking all along");
        for (State state : State.all()) {
            Unchanged.asked(CHECK, state);
        }
    }
}
