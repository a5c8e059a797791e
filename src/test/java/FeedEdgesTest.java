/** The edges that promise 6 names: feed. */
public final class FeedEdgesTest {
    private static final Check CHECK = new Check();
    private static final int MIN = Integer.MIN_VALUE;
    private static final int MAX = Integer.MAX_VALUE;

    /** Arguments that are BAD for one reason alone. */
    private static final int[][] BAD = {
        {MIN, 1}, {MIN + 1, 1}, {-32, 1}, {-8, 1}, {-2, 1}, {-1, 1},
        {8, 1}, {9, 1}, {31, 1}, {32, 1}, {33, 1}, {64, 1}, {256, 1}, {MAX - 1, 1}, {MAX, 1},
        {0, MIN}, {0, MIN + 1}, {0, -4000}, {0, -16}, {0, -2}, {0, -1}, {0, 0},
        {0, 17}, {0, 18}, {0, 32}, {0, 257}, {0, 4000}, {0, 4001}, {0, MAX - 4000}, {0, MAX - 1}, {0, MAX}
    };

    /** Both arguments bad. */
    private static final int[][] WORSE = {
        {-1, 0}, {8, 17}, {-1, 17}, {8, 0}, {MIN, MIN}, {MAX, MAX}, {MIN, MAX}, {MAX, MIN}
    };

    public static void main(String[] args) {
        wrongPhase();
        badAlone();
        badBeforeFull();
        letters();
        times();
        sumAtTheGreatestLength();
        everyLengthNearTheEnd();
        fullAppendsNothing();
        fullInADeadInput();
        lastHitStays();
        goesOnWithNoPairHeld();
        answersFromNoneToAll();
        oneByOneOrAtOnce();
        keepsTheRest();
        CHECK.finish();
    }

    private static void refused(State state, int letter, int times, int want) {
        String call = "feed(" + letter + ", " + times + ")";
        Unchanged.refused(CHECK, state, call, x -> x.feed(letter, times), want);
    }

    /** "The phase is BUILDING: WRONG_PHASE", before bad arguments. */
    private static void wrongPhase() {
        CHECK.at("wrong phase before all else");
        for (State state : State.building()) {
            refused(state, 0, 1, CountingRegex.WRONG_PHASE);
            refused(state, 7, 16, CountingRegex.WRONG_PHASE);
            refused(state, -1, 1, CountingRegex.WRONG_PHASE);
            refused(state, 8, 1, CountingRegex.WRONG_PHASE);
            refused(state, 0, 0, CountingRegex.WRONG_PHASE);
            refused(state, 0, 17, CountingRegex.WRONG_PHASE);
            refused(state, MIN, MAX, CountingRegex.WRONG_PHASE);
            refused(state, MAX, MIN, CountingRegex.WRONG_PHASE);
        }
        refused(new State("an input that was cleared", 4, 20, x -> {
            x.leaf(1, 1, 2);
            x.begin(CountingRegex.SEARCH);
            x.feed(0, 2);
            x.clear();
            x.leaf(1, 1, 2);
        }), 0, 1, CountingRegex.WRONG_PHASE);
    }

    /** "letter is below 0 or above 7, or times is below 1 or above MAX_TIMES: BAD", each reason alone. */
    private static void badAlone() {
        for (int mode = CountingRegex.WHOLE; mode <= CountingRegex.SEARCH; mode++) {
            CHECK.at("bad arguments in phase " + mode);
            for (int[][] table : new int[][][] {BAD, WORSE}) {
                for (int[] given : table) {
                    refused(State.fed(mode, 0), given[0], given[1], CountingRegex.BAD);
                    refused(State.fed(mode, 7), given[0], given[1], CountingRegex.BAD);
                    refused(State.dead(mode), given[0], given[1], CountingRegex.BAD);
                    refused(State.nothingLeft(mode), given[0], given[1], CountingRegex.BAD);
                }
            }
        }
    }

    /** The second reason before the third; a sum that wraps around is BAD as well. */
    private static void badBeforeFull() {
        for (int mode = CountingRegex.WHOLE; mode <= CountingRegex.SEARCH; mode++) {
            CHECK.at("bad before full in phase " + mode);
            for (int[][] table : new int[][][] {BAD, WORSE}) {
                for (int[] given : table) {
                    refused(State.fed(mode, CountingRegex.MAX_TEXT), given[0], given[1], CountingRegex.BAD);
                }
            }
            for (int letter : new int[] {MIN, -1, 8, MAX}) {
                refused(State.fed(mode, CountingRegex.MAX_TEXT - 1), letter, 2, CountingRegex.BAD);
                refused(State.fed(mode, CountingRegex.MAX_TEXT), letter, 16, CountingRegex.BAD);
            }
            for (int times : new int[] {MIN, 0, 17, MAX}) {
                refused(State.fed(mode, CountingRegex.MAX_TEXT - 1), 7, times, CountingRegex.BAD);
            }
        }
    }

    /** The letters on the good side of both edges, and about them. */
    private static void letters() {
        for (int mode = CountingRegex.WHOLE; mode <= CountingRegex.SEARCH; mode++) {
            for (int letter = -70; letter <= 70; letter++) {
                CHECK.at("letter " + letter + " in phase " + mode);
                CountingRegex x = new CountingRegex(2, 20);
                x.leaf(255, 1, 20);
                x.begin(mode);
                boolean good = letter >= 0 && letter <= 7;
                CHECK.due("feed(" + letter + ", 1)", x.feed(letter, 1), good ? 1 : CountingRegex.BAD);
                CHECK.due("length()", x.length(), good ? 1 : 0);
                CHECK.due("size(0)", x.size(0), good ? 1 : 0);
            }
        }
    }

    /** The times on the good side of both edges, and about them. */
    private static void times() {
        for (int mode = CountingRegex.WHOLE; mode <= CountingRegex.SEARCH; mode++) {
            for (int times = -40; times <= 40; times++) {
                CHECK.at(times + " times in phase " + mode);
                CountingRegex x = new CountingRegex(2, 60);
                x.leaf(255, 1, 40);
                x.begin(mode);
                boolean good = times >= 1 && times <= 16;
                CHECK.due("feed(7, " + times + ")", x.feed(7, times), good ? times : CountingRegex.BAD);
                CHECK.due("length()", x.length(), good ? times : 0);
                CHECK.due("lastHit()", x.lastHit(), good ? times : -1);
                CHECK.due("largest(0)", x.largest(0), good ? times : 0);
            }
        }
    }

    /** "length + times is above MAX_TEXT: FULL"; "A sum equal to MAX_TEXT is accepted." */
    private static void sumAtTheGreatestLength() {
        for (int mode = CountingRegex.WHOLE; mode <= CountingRegex.SEARCH; mode++) {
            for (int times = 1; times <= 16; times++) {
                CHECK.at(times + " times up to the greatest length in phase " + mode);
                refused(State.fed(mode, CountingRegex.MAX_TEXT - times + 1), 0, times, CountingRegex.FULL);
                CountingRegex equal = State.fed(mode, CountingRegex.MAX_TEXT - times).make();
                CHECK.due("feed(1, times)", equal.feed(1, times), times);
                CHECK.due("length()", equal.length(), CountingRegex.MAX_TEXT);
                CHECK.due("lastHit()", equal.lastHit(), CountingRegex.MAX_TEXT);
                CHECK.due("one letter more", equal.feed(1, 1), CountingRegex.FULL);
                CountingRegex below = State.fed(mode, CountingRegex.MAX_TEXT - times - 1).make();
                CHECK.due("feed(1, times)", below.feed(1, times), times);
                CHECK.due("length()", below.length(), CountingRegex.MAX_TEXT - 1);
                CHECK.due("the last letter", below.feed(1, 1), 1);
                CHECK.due("length()", below.length(), CountingRegex.MAX_TEXT);
            }
        }
    }

    /** Every length from which the edge can be reached, with every times. */
    private static void everyLengthNearTheEnd() {
        for (int mode = CountingRegex.WHOLE; mode <= CountingRegex.SEARCH; mode++) {
            for (int length = CountingRegex.MAX_TEXT - 18; length <= CountingRegex.MAX_TEXT; length++) {
                CountingRegex x = State.fed(mode, length).make();
                for (int times = 1; times <= 16; times++) {
                    if (length + times > CountingRegex.MAX_TEXT) {
                        CHECK.at("length " + length + " in phase " + mode);
                        CHECK.due("feed(5, " + times + ")", x.feed(5, times), CountingRegex.FULL);
                        CHECK.due("length()", x.length(), length);
                    }
                }
                Snapshot.same(CHECK, "after refused letters", x, State.fed(mode, length).make());
            }
        }
    }

    /** "In this case no letter at all is appended": also not those that would still have fitted. */
    private static void fullAppendsNothing() {
        for (int mode = CountingRegex.WHOLE; mode <= CountingRegex.SEARCH; mode++) {
            CHECK.at("no letter at all in phase " + mode);
            for (int left = 0; left < 16; left++) {
                for (int letter : new int[] {0, 1, 5}) {
                    refused(State.fed(mode, CountingRegex.MAX_TEXT - left), letter, left + 1, CountingRegex.FULL);
                }
                refused(State.fed(mode, CountingRegex.MAX_TEXT - left), 5, 16, CountingRegex.FULL);
            }
        }
    }

    /** The length counts for FULL also when no pair has been held for long. */
    private static void fullInADeadInput() {
        for (int mode = CountingRegex.WHOLE; mode <= CountingRegex.SEARCH; mode++) {
            int phase = mode;
            State state = new State("a dead input of the greatest length in phase " + mode, 2, 20, x -> {
                x.leaf(1, 1, 2);
                x.begin(phase);
                x.feed(0, 2);
                for (int n = 0; n < 249; n++) {
                    x.feed(1, 16);
                }
                x.feed(1, 14);
            });
            CHECK.at(state.name());
            CountingRegex x = state.make();
            CHECK.due("length()", x.length(), CountingRegex.MAX_TEXT);
            CHECK.due("lastHit()", x.lastHit(), 2);
            CHECK.due("accepts()", x.accepts(), false);
            refused(state, 0, 1, CountingRegex.FULL);
            refused(state, 1, 16, CountingRegex.FULL);
        }
    }

    /** "if the input is accepted now, the last hit becomes the new length; if it is not accepted, the last hit stays". */
    private static void lastHitStays() {
        CHECK.at("last hits of 0{2} 1* and of searches for it");
        CountingRegex x = new CountingRegex(2, 20);
        x.leaf(1, 2, 2);
        x.leaf(2, 0, CountingRegex.UNBOUNDED);
        x.op(CountingRegex.CAT);
        int[] word = {0, 0, 1, 1, 0, 0, 1, 5, 1};
        int[] whole = {-1, 2, 3, 4, 4, 4, 4, 4, 4};
        int[] search = {-1, 2, 3, 4, 4, 6, 7, 7, 7};
        for (int mode = CountingRegex.WHOLE; mode <= CountingRegex.SEARCH; mode++) {
            x.begin(mode);
            CHECK.due("lastHit() at length 0", x.lastHit(), -1);
            for (int i = 0; i < word.length; i++) {
                x.feed(word[i], 1);
                int due = mode == CountingRegex.WHOLE ? whole[i] : search[i];
                CHECK.due("lastHit() at length " + (i + 1) + " in phase " + mode, x.lastHit(), due);
            }
        }
    }

    /** "Letters are appended in the same way when no pair is held." */
    private static void goesOnWithNoPairHeld() {
        CHECK.at("no pair held");
        CountingRegex x = new CountingRegex(2, 20);
        x.leaf(1, 1, 2);
        for (int mode = CountingRegex.WHOLE; mode <= CountingRegex.SEARCH; mode++) {
            x.begin(mode);
            for (int n = 1; n <= 100; n++) {
                CHECK.due("feed(1, 16)", x.feed(1, 16), 0);
                CHECK.due("length()", x.length(), 16 * n);
                CHECK.due("lastHit()", x.lastHit(), -1);
                CHECK.due("size(0)", x.size(0), 0);
            }
            boolean search = mode == CountingRegex.SEARCH;
            CHECK.due("feed(0, 3) in phase " + mode, x.feed(0, 3), search ? 3 : 0);
            CHECK.due("length()", x.length(), 1603);
            CHECK.due("lastHit()", x.lastHit(), search ? 1603 : -1);
            CHECK.due("size(0)", x.size(0), search ? 2 : 0);
        }
    }

    /** "The answer is how many of these times single steps ended with an accepted input, from 0 to times." */
    private static void answersFromNoneToAll() {
        for (int least = 1; least <= 18; least++) {
            for (int most = least; most <= 18; most++) {
                for (int times = 1; times <= 16; times++) {
                    CHECK.at("0{" + least + "," + most + "} fed " + times + " times");
                    CountingRegex x = new CountingRegex(2, 20);
                    x.leaf(1, least, most);
                    x.begin(CountingRegex.WHOLE);
                    int hits = Math.max(0, Math.min(times, most) - least + 1);
                    CHECK.due("feed in WHOLE", x.feed(0, times), hits);
                    CHECK.due("lastHit()", x.lastHit(), hits == 0 ? -1 : Math.min(times, most));
                    x.begin(CountingRegex.SEARCH);
                    int found = Math.max(0, times - least + 1);
                    CHECK.due("feed in SEARCH", x.feed(0, times), found);
                    CHECK.due("lastHit()", x.lastHit(), found == 0 ? -1 : times);
                }
            }
        }
    }

    /** "appends letter to the input, times times, one after the other". */
    private static void oneByOneOrAtOnce() {
        for (int mode = CountingRegex.WHOLE; mode <= CountingRegex.SEARCH; mode++) {
            for (int times = 1; times <= 16; times++) {
                for (int letter = 0; letter <= 2; letter++) {
                    CHECK.at("letter " + letter + " " + times + " times in phase " + mode);
                    CountingRegex atOnce = State.fed(mode, 5).make();
                    CountingRegex oneByOne = State.fed(mode, 5).make();
                    int hits = 0;
                    for (int n = 0; n < times; n++) {
                        hits += oneByOne.feed(letter, 1);
                    }
                    CHECK.due("feed", atOnce.feed(letter, times), hits);
                    Snapshot.same(CHECK, "afterwards", atOnce, oneByOne);
                }
            }
        }
    }

    /** "The phase, the stack, the leaves and the room do not change." */
    private static void keepsTheRest() {
        for (State state : State.matching()) {
            CountingRegex x = state.make();
            if (x.length() == CountingRegex.MAX_TEXT) {
                continue;
            }
            CHECK.at("a letter on " + state.name());
            int phase = x.phase();
            int room = x.room();
            int length = x.length();
            int leaves = State.leavesOf(x);
            CHECK.due("feed(0, 1) is accepted", x.feed(0, 1) >= 0, true);
            CHECK.due("phase()", x.phase(), phase);
            CHECK.due("height()", x.height(), 1);
            CHECK.due("room()", x.room(), room);
            CHECK.due("length()", x.length(), length + 1);
            CHECK.due("size of the last leaf", x.size(leaves - 1) >= 0, true);
            CHECK.due("size of no leaf", x.size(leaves), -1);
        }
    }
}
