/**
 * A streaming matcher for expressions over counted letter classes.
 *
 * Every leaf stands at exactly one place of the expression, so it is enough to
 * know, for each item, which leaves can come first and last and whether it has
 * the empty trace, and, for each leaf, which leaves can come right after it.
 * A set of leaves is an int whose bit p stands for leaf p.
 */
public final class CountingRegex {
    public static final int BUILDING = 0;
    public static final int WHOLE = 1;
    public static final int SEARCH = 2;

    public static final int CAT = 1;
    public static final int ALT = 2;
    public static final int STAR = 3;
    public static final int PLUS = 4;
    public static final int OPT = 5;

    public static final int UNBOUNDED = -1;

    public static final int OK = 0;
    public static final int WRONG_PHASE = -1;
    public static final int BAD = -2;
    public static final int FULL = -3;
    public static final int TOO_FEW = -4;
    public static final int NOT_ONE = -5;

    public static final int MAX_TEXT = 4000;
    public static final int MAX_TIMES = 16;

    private static final int LEAST_LEAVES = 2;
    private static final int MOST_LEAVES = 12;
    private static final int LEAST_CELLS = 8;
    private static final int MOST_CELLS = 224;
    private static final int LAST_LETTER = 7;
    private static final int LAST_CLASS = 255;

    private final int leafLimit;
    private final int wholeRoom;

    private int currentPhase;
    private int stackHeight;
    private int leafCount;
    private int freeRoom;
    private int inputLength;
    private int hitLength;

    private final int[] leafClass = new int[MOST_LEAVES];
    private final int[] leafLeast = new int[MOST_LEAVES];
    private final int[] leafTop = new int[MOST_LEAVES];
    private final boolean[] leafEndless = new boolean[MOST_LEAVES];
    private final int[] leafBase = new int[MOST_LEAVES];
    private final int[] leafFollow = new int[MOST_LEAVES];

    // The stack is never higher than the number of leaves.
    private final boolean[] itemEmpty = new boolean[MOST_LEAVES];
    private final int[] itemFirst = new int[MOST_LEAVES];
    private final int[] itemLast = new int[MOST_LEAVES];

    // Pair (p,v) stands at leafBase[p] + v - 1: the cells that leaf p has paid for.
    private final boolean[] held = new boolean[MOST_CELLS];

    public CountingRegex(int maxLeaves, int cells) {
        leafLimit = clamped(maxLeaves, LEAST_LEAVES, MOST_LEAVES);
        wholeRoom = clamped(cells, LEAST_CELLS, MOST_CELLS);
        startOver();
    }

    public void clear() {
        startOver();
    }

    public int leaf(int mask, int least, int most) {
        if (currentPhase != BUILDING) {
            return WRONG_PHASE;
        }
        if (mask < 1 || mask > LAST_CLASS || !boundsFit(least, most)) {
            return BAD;
        }
        int cost = topOf(least, most);
        if (leafCount >= leafLimit || cost > freeRoom) {
            return FULL;
        }
        int p = leafCount;
        leafClass[p] = mask;
        leafLeast[p] = least;
        leafTop[p] = cost;
        leafEndless[p] = most == UNBOUNDED;
        leafBase[p] = wholeRoom - freeRoom;
        leafFollow[p] = 0;
        itemEmpty[stackHeight] = least == 0;
        itemFirst[stackHeight] = 1 << p;
        itemLast[stackHeight] = 1 << p;
        stackHeight++;
        leafCount++;
        freeRoom -= cost;
        return p;
    }

    public int op(int kind) {
        if (currentPhase != BUILDING) {
            return WRONG_PHASE;
        }
        if (kind < CAT || kind > OPT) {
            return BAD;
        }
        boolean joins = kind == CAT || kind == ALT;
        if (stackHeight < (joins ? 2 : 1)) {
            return TOO_FEW;
        }
        if (!joins && freeRoom < 1) {
            return FULL;
        }
        if (joins) {
            joinUppermost(kind);
        } else {
            wrapUppermost(kind);
        }
        return stackHeight;
    }

    public int begin(int mode) {
        if (mode != WHOLE && mode != SEARCH) {
            return BAD;
        }
        if (stackHeight != 1) {
            return NOT_ONE;
        }
        currentPhase = mode;
        dropInput();
        if (itemEmpty[0]) {
            hitLength = 0;
        }
        return OK;
    }

    public int feed(int letter, int times) {
        if (currentPhase == BUILDING) {
            return WRONG_PHASE;
        }
        if (!isLetter(letter) || times < 1 || times > MAX_TIMES) {
            return BAD;
        }
        if (inputLength + times > MAX_TEXT) {
            return FULL;
        }
        int hits = 0;
        for (int i = 0; i < times; i++) {
            append(letter);
            if (inputAccepted()) {
                hitLength = inputLength;
                hits++;
            }
        }
        return hits;
    }

    public int phase() {
        return currentPhase;
    }

    public int height() {
        return stackHeight;
    }

    public int room() {
        return freeRoom;
    }

    public int length() {
        return inputLength;
    }

    public int lastHit() {
        return hitLength;
    }

    public boolean accepts() {
        if (currentPhase != BUILDING) {
            return inputAccepted();
        }
        return stackHeight > 0 && itemEmpty[stackHeight - 1];
    }

    public boolean allowed(int letter) {
        if (!isLetter(letter) || stackHeight < 1) {
            return false;
        }
        boolean building = currentPhase == BUILDING;
        int enterable = building ? itemFirst[stackHeight - 1] : enterableLeaves();
        for (int p = 0; p < leafCount; p++) {
            // In BUILDING no pair is held, so no leaf can go on.
            if (contains(leafClass[p], letter) && (contains(enterable, p) || canGoOn(p))) {
                return true;
            }
        }
        return false;
    }

    public int size(int p) {
        if (!isLeaf(p)) {
            return -1;
        }
        int count = 0;
        for (int v = 1; v <= leafTop[p]; v++) {
            if (held[leafBase[p] + v - 1]) {
                count++;
            }
        }
        return count;
    }

    public int largest(int p) {
        if (!isLeaf(p)) {
            return -1;
        }
        for (int v = leafTop[p]; v >= 1; v--) {
            if (held[leafBase[p] + v - 1]) {
                return v;
            }
        }
        return 0;
    }

    public int smallest(int p) {
        if (!isLeaf(p)) {
            return -1;
        }
        for (int v = 1; v <= leafTop[p]; v++) {
            if (held[leafBase[p] + v - 1]) {
                return v;
            }
        }
        return 0;
    }

    public boolean holds(int p, int v) {
        if (!isLeaf(p) || v < 1 || v > leafTop[p]) {
            return false;
        }
        return held[leafBase[p] + v - 1];
    }

    private static int clamped(int value, int least, int greatest) {
        if (value < least) {
            return least;
        }
        return value > greatest ? greatest : value;
    }

    private static boolean boundsFit(int least, int most) {
        if (least < 0) {
            return false;
        }
        return most == UNBOUNDED || (most >= 1 && most >= least);
    }

    private static int topOf(int least, int most) {
        if (most != UNBOUNDED) {
            return most;
        }
        return least > 1 ? least : 1;
    }

    private static boolean isLetter(int letter) {
        return letter >= 0 && letter <= LAST_LETTER;
    }

    private static boolean contains(int set, int member) {
        return (set >> member & 1) == 1;
    }

    private boolean isLeaf(int p) {
        return p >= 0 && p < leafCount;
    }

    private void startOver() {
        currentPhase = BUILDING;
        stackHeight = 0;
        leafCount = 0;
        freeRoom = wholeRoom;
        dropInput();
    }

    private void dropInput() {
        inputLength = 0;
        hitLength = -1;
        for (int c = 0; c < MOST_CELLS; c++) {
            held[c] = false;
        }
    }

    private void joinUppermost(int kind) {
        int left = stackHeight - 2;
        int right = stackHeight - 1;
        if (kind == CAT) {
            concatenate(left, right);
        } else {
            itemEmpty[left] = itemEmpty[left] || itemEmpty[right];
            itemFirst[left] |= itemFirst[right];
            itemLast[left] |= itemLast[right];
        }
        stackHeight--;
    }

    private void concatenate(int left, int right) {
        letFollow(itemLast[left], itemFirst[right]);
        if (itemEmpty[left]) {
            itemFirst[left] |= itemFirst[right];
        }
        if (itemEmpty[right]) {
            itemLast[left] |= itemLast[right];
        } else {
            itemLast[left] = itemLast[right];
        }
        itemEmpty[left] = itemEmpty[left] && itemEmpty[right];
    }

    private void wrapUppermost(int kind) {
        int item = stackHeight - 1;
        if (kind != OPT) {
            letFollow(itemLast[item], itemFirst[item]);
        }
        if (kind != PLUS) {
            itemEmpty[item] = true;
        }
        freeRoom--;
    }

    private void letFollow(int before, int after) {
        for (int p = 0; p < leafCount; p++) {
            if (contains(before, p)) {
                leafFollow[p] |= after;
            }
        }
    }

    private void append(int letter) {
        // Taken before any leaf moves on, since it asks for the pairs of the shorter input.
        int enterable = enterableLeaves();
        for (int p = 0; p < leafCount; p++) {
            if (contains(leafClass[p], letter)) {
                boolean enters = contains(enterable, p);
                moveOn(p, enters);
            } else {
                dropPairs(p);
            }
        }
        inputLength++;
    }

    private void moveOn(int p, boolean enters) {
        int lowest = leafBase[p];
        int highest = lowest + leafTop[p] - 1;
        boolean stays = leafEndless[p] && held[highest];
        // Downwards, so that each cell is read before it is written.
        for (int c = highest; c > lowest; c--) {
            held[c] = held[c - 1];
        }
        held[lowest] = enters;
        if (stays) {
            held[highest] = true;
        }
    }

    private void dropPairs(int p) {
        for (int v = 1; v <= leafTop[p]; v++) {
            held[leafBase[p] + v - 1] = false;
        }
    }

    private boolean canStartHere() {
        return currentPhase == SEARCH || inputLength == 0;
    }

    private int enterableLeaves() {
        int enterable = canStartHere() ? itemFirst[0] : 0;
        for (int p = 0; p < leafCount; p++) {
            if (canLeave(p)) {
                enterable |= leafFollow[p];
            }
        }
        return enterable;
    }

    private boolean inputAccepted() {
        if (itemEmpty[0] && canStartHere()) {
            return true;
        }
        for (int p = 0; p < leafCount; p++) {
            if (contains(itemLast[0], p) && canLeave(p)) {
                return true;
            }
        }
        return false;
    }

    private boolean canLeave(int p) {
        int enough = leafLeast[p] > 1 ? leafLeast[p] : 1;
        return holdsWithin(p, enough, leafTop[p]);
    }

    private boolean canGoOn(int p) {
        return holdsWithin(p, 1, leafEndless[p] ? leafTop[p] : leafTop[p] - 1);
    }

    private boolean holdsWithin(int p, int from, int to) {
        for (int v = from; v <= to; v++) {
            if (held[leafBase[p] + v - 1]) {
                return true;
            }
        }
        return false;
    }
}
