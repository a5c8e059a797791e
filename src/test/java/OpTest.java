/** Promise 4: op. */
public final class OpTest {
    private static final Check CHECK = new Check();

    public static void main(String[] args) {
        badKinds();
        tooFew();
        full();
        wrongPhaseFirst();
        answersAndRoom();
        orderOfItems();
        itemsFurtherDown();
        meanings();
        compoundItems(CountingRegex.CAT);
        compoundItems(CountingRegex.ALT);
        compoundOptions();
        nested();
        CHECK.finish();
    }

    private static void badKinds() {
        CHECK.at("bad kinds");
        CountingRegex x = new CountingRegex(4, 8);
        for (int round = 0; round < 3; round++) {
            for (int kind : new int[] {Integer.MIN_VALUE, -1, 0, 6, 7, 9, Integer.MAX_VALUE}) {
                CHECK.due("op(" + kind + ")", x.op(kind), CountingRegex.BAD);
            }
            CHECK.due("height()", x.height(), round);
            x.leaf(1, 1, 4);
        }
        CHECK.due("room()", x.room(), 0);
        // BAD comes before FULL too.
        CHECK.due("op(6)", x.op(6), CountingRegex.BAD);
        CHECK.due("op(0)", x.op(0), CountingRegex.BAD);
    }

    private static void tooFew() {
        CHECK.at("too few items");
        CountingRegex x = new CountingRegex(4, 8);
        for (int kind = CountingRegex.CAT; kind <= CountingRegex.OPT; kind++) {
            CHECK.due("op(" + kind + ")", x.op(kind), CountingRegex.TOO_FEW);
        }
        CHECK.due("room()", x.room(), 8);
        x.leaf(1, 1, 8);
        CHECK.due("op(CAT)", x.op(CountingRegex.CAT), CountingRegex.TOO_FEW);
        CHECK.due("op(ALT)", x.op(CountingRegex.ALT), CountingRegex.TOO_FEW);
        CHECK.due("height()", x.height(), 1);
    }

    private static void full() {
        CHECK.at("no free room");
        CountingRegex x = new CountingRegex(4, 8);
        x.leaf(1, 1, 2);
        x.leaf(2, 1, 2);
        x.leaf(4, 1, 3);
        CHECK.due("op(PLUS)", x.op(CountingRegex.PLUS), 3);
        CHECK.due("room()", x.room(), 0);
        for (int kind = CountingRegex.STAR; kind <= CountingRegex.OPT; kind++) {
            CHECK.due("op(" + kind + ")", x.op(kind), CountingRegex.FULL);
            CHECK.due("height()", x.height(), 3);
            CHECK.due("accepts()", x.accepts(), false);
        }
        CHECK.due("op(CAT)", x.op(CountingRegex.CAT), 2);
        CHECK.due("op(ALT)", x.op(CountingRegex.ALT), 1);
        CHECK.due("room()", x.room(), 0);
        // The refused STAR and OPT have left no mark.
        x.begin(CountingRegex.WHOLE);
        CHECK.due("accepts()", x.accepts(), false);
        CHECK.due("feed(0, 3)", x.feed(0, 3), 2);
        CHECK.due("size(0)", x.size(0), 0);
    }

    private static void wrongPhaseFirst() {
        for (int mode = CountingRegex.WHOLE; mode <= CountingRegex.SEARCH; mode++) {
            CHECK.at("op in phase " + mode);
            CountingRegex x = new CountingRegex(2, 8);
            x.leaf(1, 2, 3);
            x.begin(mode);
            x.feed(0, 2);
            for (int kind = -1; kind <= 7; kind++) {
                CHECK.due("op(" + kind + ")", x.op(kind), CountingRegex.WRONG_PHASE);
            }
            CHECK.due("phase()", x.phase(), mode);
            CHECK.due("height()", x.height(), 1);
            CHECK.due("room()", x.room(), 5);
            CHECK.due("length()", x.length(), 2);
            CHECK.due("lastHit()", x.lastHit(), 2);
            CHECK.due("holds(0, 2)", x.holds(0, 2), true);
        }
    }

    private static void answersAndRoom() {
        CHECK.at("answers and room");
        CountingRegex x = new CountingRegex(12, 100);
        for (int p = 0; p < 12; p++) {
            x.leaf(1, 1, 1);
        }
        for (int kind = CountingRegex.STAR; kind <= CountingRegex.OPT; kind++) {
            CHECK.due("op(" + kind + ")", x.op(kind), 12);
        }
        CHECK.due("room()", x.room(), 85);
        for (int height = 11; height >= 1; height--) {
            CHECK.due("op", x.op(height % 2 == 0 ? CountingRegex.CAT : CountingRegex.ALT), height);
            CHECK.due("height()", x.height(), height);
        }
        CHECK.due("room()", x.room(), 85);
        for (int room = 84; room >= 0; room--) {
            CHECK.due("op(OPT)", x.op(CountingRegex.OPT), 1);
            CHECK.due("room()", x.room(), room);
        }
        CHECK.due("op(OPT)", x.op(CountingRegex.OPT), CountingRegex.FULL);
        CHECK.due("size(11)", x.size(11), 0);
        CHECK.due("size(12)", x.size(12), -1);
        CHECK.due("phase()", x.phase(), CountingRegex.BUILDING);
        CHECK.due("lastHit()", x.lastHit(), -1);
    }

    private static void orderOfItems() {
        CHECK.at("the upper item is the right one");
        CountingRegex x = new CountingRegex(2, 8);
        x.leaf(1, 1, 1);
        x.leaf(2, 1, 1);
        x.op(CountingRegex.CAT);
        CHECK.due("allowed(0)", x.allowed(0), true);
        CHECK.due("allowed(1)", x.allowed(1), false);
        fed(x, CountingRegex.WHOLE, "01", "01");
        fed(x, CountingRegex.WHOLE, "10", "00");
        fed(x, CountingRegex.SEARCH, "101", "001");
    }

    private static void itemsFurtherDown() {
        CHECK.at("items further down stay");
        CountingRegex x = new CountingRegex(3, 20);
        x.leaf(1, 1, 1);
        x.leaf(2, 1, 1);
        x.leaf(4, 1, 1);
        x.op(CountingRegex.ALT);
        x.op(CountingRegex.STAR);
        CHECK.due("height()", x.height(), 2);
        x.op(CountingRegex.CAT);
        CHECK.due("accepts()", x.accepts(), false);
        fed(x, CountingRegex.WHOLE, "0121", "1111");
        fed(x, CountingRegex.WHOLE, "00", "10");
        fed(x, CountingRegex.WHOLE, "10", "00");
    }

    private static void meanings() {
        CHECK.at("meanings");
        fed(one(1, 2, 3, CountingRegex.STAR), CountingRegex.WHOLE, "00000001", "01111110");
        fed(one(1, 3, 4, CountingRegex.STAR), CountingRegex.WHOLE, "000000000", "001101111");
        fed(one(1, 3, 4, CountingRegex.PLUS), CountingRegex.WHOLE, "000000000", "001101111");
        fed(one(1, 3, 4, CountingRegex.OPT), CountingRegex.WHOLE, "000000000", "001100000");
        fed(one(1, 3, 3, CountingRegex.PLUS), CountingRegex.WHOLE, "0000000", "0010010");
        fed(one(1, 2, 2, CountingRegex.OPT), CountingRegex.SEARCH, "10", "11");
        CHECK.due("accepts()", one(1, 1, 1, CountingRegex.STAR).accepts(), true);
        CHECK.due("accepts()", one(1, 1, 1, CountingRegex.PLUS).accepts(), false);
        CHECK.due("accepts()", one(1, 0, 1, CountingRegex.PLUS).accepts(), true);
        CHECK.due("accepts()", one(1, 1, 1, CountingRegex.OPT).accepts(), true);
        for (int left = 0; left <= 1; left++) {
            for (int right = 0; right <= 1; right++) {
                CHECK.at("empty traces of " + left + " and " + right);
                CHECK.due("accepts()", two(left, right, CountingRegex.CAT).accepts(), left == 0 && right == 0);
                CHECK.due("accepts()", two(left, right, CountingRegex.ALT).accepts(), left == 0 || right == 0);
                String last = right == 0 ? "1" : "0";
                fed(two(left, right, CountingRegex.CAT), CountingRegex.WHOLE, "010", last + "10");
                fed(two(left, right, CountingRegex.CAT), CountingRegex.WHOLE, "11", left == 0 ? "10" : "00");
                fed(two(left, right, CountingRegex.ALT), CountingRegex.WHOLE, "01", "10");
                fed(two(left, right, CountingRegex.ALT), CountingRegex.WHOLE, "11", "10");
            }
        }
    }

    /** Items of two leaves each, so that the first leaf of an item is not its last one. */
    private static void compoundItems(int kind) {
        CHECK.at("(0 1) and (2 3) by op " + kind);
        CountingRegex x = new CountingRegex(12, 100);
        pair(x, 1, 2);
        pair(x, 4, 8);
        x.op(kind);
        boolean cat = kind == CountingRegex.CAT;
        fed(x, CountingRegex.WHOLE, "0123", cat ? "0001" : "0100");
        fed(x, CountingRegex.WHOLE, "013", "0" + (cat ? "00" : "10"));
        fed(x, CountingRegex.WHOLE, "23", cat ? "00" : "01");
        fed(x, CountingRegex.WHOLE, "3", "0");
        x.clear();
        pair(x, 1, 2);
        pair(x, 4, 8);
        x.op(kind);
        x.op(CountingRegex.PLUS);
        fed(x, CountingRegex.WHOLE, "01230123", cat ? "00010001" : "01010101");
        fed(x, CountingRegex.WHOLE, "0101", cat ? "0000" : "0101");
        fed(x, CountingRegex.WHOLE, "01231", cat ? "00010" : "01010");
    }

    private static void compoundOptions() {
        CHECK.at("(0 1)? (2 3)?");
        CountingRegex x = new CountingRegex(12, 100);
        pair(x, 1, 2);
        x.op(CountingRegex.OPT);
        pair(x, 4, 8);
        x.op(CountingRegex.OPT);
        x.op(CountingRegex.CAT);
        fed(x, CountingRegex.WHOLE, "0123", "0101");
        fed(x, CountingRegex.WHOLE, "23", "01");
        fed(x, CountingRegex.WHOLE, "3", "0");
        fed(x, CountingRegex.WHOLE, "0101", "0100");
        fed(x, CountingRegex.WHOLE, "2301", "0100");
    }

    private static void pair(CountingRegex x, int leftMask, int rightMask) {
        x.leaf(leftMask, 1, 1);
        x.leaf(rightMask, 1, 1);
        x.op(CountingRegex.CAT);
    }

    private static void nested() {
        CHECK.at("((0{2} 1?)+ | 2) 3");
        CountingRegex x = new CountingRegex(12, 100);
        x.leaf(1, 2, 2);
        x.leaf(2, 1, 1);
        x.op(CountingRegex.OPT);
        x.op(CountingRegex.CAT);
        x.op(CountingRegex.PLUS);
        x.leaf(4, 1, 1);
        x.op(CountingRegex.ALT);
        x.leaf(8, 1, 1);
        x.op(CountingRegex.CAT);
        fed(x, CountingRegex.WHOLE, "0010000103", "0000000000");
        fed(x, CountingRegex.WHOLE, "00100001003", "00000000001");
        fed(x, CountingRegex.WHOLE, "2300", "0100");
        fed(x, CountingRegex.WHOLE, "3", "0");
        fed(x, CountingRegex.SEARCH, "33003231001323", "00001010000101");
    }

    private static CountingRegex one(int mask, int least, int most, int kind) {
        CountingRegex x = new CountingRegex(2, 20);
        x.leaf(mask, least, most);
        x.op(kind);
        return x;
    }

    private static CountingRegex two(int leftLeast, int rightLeast, int kind) {
        CountingRegex x = new CountingRegex(2, 20);
        x.leaf(1, leftLeast, 1);
        x.leaf(2, rightLeast, 1);
        x.op(kind);
        return x;
    }

    /** Feeds the word letter by letter; hits has a 1 for each letter that ends an accepted input. */
    private static void fed(CountingRegex x, int mode, String word, String hits) {
        x.begin(mode);
        for (int i = 0; i < word.length(); i++) {
            String call = "feed of letter " + (i + 1) + " of " + word + " in mode " + mode;
            CHECK.due(call, x.feed(word.charAt(i) - '0', 1), hits.charAt(i) - '0');
        }
    }
}
