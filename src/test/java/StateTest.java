/** Promises 7 to 11: phase, height, room, length and lastHit. */
public final class StateTest {
    private static final Check CHECK = new Check();

    public static void main(String[] args) {
        CHECK.at("state");
        CountingRegex x = new CountingRegex(4, 30);
        state(x, "0 0 30 0 -1");
        x.leaf(1, 0, 4);
        state(x, "0 1 26 0 -1");
        x.leaf(2, 6, CountingRegex.UNBOUNDED);
        state(x, "0 2 20 0 -1");
        x.op(CountingRegex.OPT);
        state(x, "0 2 19 0 -1");
        x.op(CountingRegex.STAR);
        state(x, "0 2 18 0 -1");
        x.op(CountingRegex.PLUS);
        state(x, "0 2 17 0 -1");
        x.op(CountingRegex.CAT);
        state(x, "0 1 17 0 -1");
        x.leaf(4, 0, CountingRegex.UNBOUNDED);
        state(x, "0 2 16 0 -1");
        x.op(CountingRegex.ALT);
        state(x, "0 1 16 0 -1");
        x.begin(CountingRegex.WHOLE);
        state(x, "1 1 16 0 0");
        x.feed(0, 3);
        state(x, "1 1 16 3 3");
        x.feed(1, 5);
        state(x, "1 1 16 8 3");
        x.feed(1, 1);
        state(x, "1 1 16 9 9");
        x.feed(2, 16);
        state(x, "1 1 16 25 9");
        x.begin(CountingRegex.SEARCH);
        state(x, "2 1 16 0 0");
        x.feed(7, 4);
        state(x, "2 1 16 4 4");
        x.begin(CountingRegex.WHOLE);
        state(x, "1 1 16 0 0");
        x.feed(7, 4);
        state(x, "1 1 16 4 0");
        x.clear();
        state(x, "0 0 30 0 -1");
        CHECK.finish();
    }

    /** Phase, height, room, length and last hit, asked twice since asking changes nothing. */
    private static void state(CountingRegex x, String want) {
        for (int round = 0; round < 2; round++) {
            String[] due = want.split(" ");
            CHECK.due("phase() in " + want, x.phase(), Integer.parseInt(due[0]));
            CHECK.due("height() in " + want, x.height(), Integer.parseInt(due[1]));
            CHECK.due("room() in " + want, x.room(), Integer.parseInt(due[2]));
            CHECK.due("length() in " + want, x.length(), Integer.parseInt(due[3]));
            CHECK.due("lastHit() in " + want, x.lastHit(), Integer.parseInt(due[4]));
        }
    }
}
