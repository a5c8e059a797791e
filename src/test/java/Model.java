import java.util.ArrayList;
import java.util.BitSet;
import java.util.List;

/**
 * What the document says, in another way than the class does it: the expression is kept as
 * a tree and the whole input is read again after every call, by asking each node at which
 * places of the input a trace can end that began at given places.
 *
 * Every item has at least one trace, so every sequence of pairs that is found on the way is
 * a beginning of a trace.
 */
final class Model {
    private static final int LEAF = 0;

    private static final class Node {
        final int kind;
        final Node left;
        final Node right;
        final int leaf;

        Node(int kind, Node left, Node right, int leaf) {
            this.kind = kind;
            this.left = left;
            this.right = right;
            this.leaf = leaf;
        }
    }

    private static final class Bounds {
        final int mask;
        final long least;
        final long most;
        final int top;

        Bounds(int mask, int least, int most, int top) {
            this.mask = mask;
            this.least = least;
            this.most = most == CountingRegex.UNBOUNDED ? Long.MAX_VALUE : most;
            this.top = top;
        }
    }

    private final int maxLeaves;
    private final int cells;
    private final List<Bounds> leaves = new ArrayList<>();
    private final List<Node> stack = new ArrayList<>();
    private final int[] input = new int[CountingRegex.MAX_TEXT + 1];
    private int room;
    private int phase;
    private int length;

    /** The pairs that end at the end of the input, and the accepted lengths. */
    private BitSet[] held = new BitSet[0];
    private BitSet accepted = new BitSet();

    Model(int maxLeaves, int cells) {
        this.maxLeaves = Math.max(2, Math.min(12, maxLeaves));
        this.cells = Math.max(8, Math.min(224, cells));
        clear();
    }

    void clear() {
        leaves.clear();
        stack.clear();
        room = cells;
        phase = CountingRegex.BUILDING;
        length = 0;
        read();
    }

    int leaf(int mask, int least, int most) {
        if (phase != CountingRegex.BUILDING) {
            return CountingRegex.WRONG_PHASE;
        }
        boolean unbounded = most == CountingRegex.UNBOUNDED;
        if (mask < 1 || mask > 255 || least < 0 || (!unbounded && (most < 1 || most < least))) {
            return CountingRegex.BAD;
        }
        int top = unbounded ? Math.max(least, 1) : most;
        if (leaves.size() == maxLeaves || top > room) {
            return CountingRegex.FULL;
        }
        room -= top;
        leaves.add(new Bounds(mask, least, most, top));
        stack.add(new Node(LEAF, null, null, leaves.size() - 1));
        read();
        return leaves.size() - 1;
    }

    int op(int kind) {
        if (phase != CountingRegex.BUILDING) {
            return CountingRegex.WRONG_PHASE;
        }
        if (kind < 1 || kind > 5) {
            return CountingRegex.BAD;
        }
        boolean two = kind <= CountingRegex.ALT;
        if (stack.size() < (two ? 2 : 1)) {
            return CountingRegex.TOO_FEW;
        }
        if (!two && room == 0) {
            return CountingRegex.FULL;
        }
        Node upper = stack.remove(stack.size() - 1);
        if (two) {
            stack.add(new Node(kind, stack.remove(stack.size() - 1), upper, -1));
        } else {
            stack.add(new Node(kind, upper, null, -1));
            room--;
        }
        read();
        return stack.size();
    }

    int begin(int mode) {
        if (mode != CountingRegex.WHOLE && mode != CountingRegex.SEARCH) {
            return CountingRegex.BAD;
        }
        if (stack.size() != 1) {
            return CountingRegex.NOT_ONE;
        }
        phase = mode;
        length = 0;
        read();
        return CountingRegex.OK;
    }

    int feed(int letter, int times) {
        if (phase == CountingRegex.BUILDING) {
            return CountingRegex.WRONG_PHASE;
        }
        if (letter < 0 || letter > 7 || times < 1 || times > 16) {
            return CountingRegex.BAD;
        }
        if (length + times > 4000) {
            return CountingRegex.FULL;
        }
        int before = length;
        for (int i = 0; i < times; i++) {
            input[length++] = letter;
        }
        read();
        return accepted.get(before + 1, length + 1).cardinality();
    }

    int phase() {
        return phase;
    }

    int height() {
        return stack.size();
    }

    int room() {
        return room;
    }

    int length() {
        return length;
    }

    int lastHit() {
        return phase == CountingRegex.BUILDING ? -1 : accepted.length() - 1;
    }

    boolean accepts() {
        return accepted.get(length);
    }

    boolean allowed(int letter) {
        if (letter < 0 || letter > 7 || stack.isEmpty()) {
            return false;
        }
        input[length] = letter;
        BitSet[] reached = noPairs();
        ends(uppermost(), starts(length + 1), length + 1, reached);
        for (BitSet counts : reached) {
            if (!counts.isEmpty()) {
                return true;
            }
        }
        return false;
    }

    int leaves() {
        return leaves.size();
    }

    int top(int p) {
        return leaves.get(p).top;
    }

    int size(int p) {
        return isLeaf(p) ? held[p].cardinality() : -1;
    }

    int largest(int p) {
        return isLeaf(p) ? Math.max(0, held[p].length() - 1) : -1;
    }

    int smallest(int p) {
        return isLeaf(p) ? Math.max(0, held[p].nextSetBit(0)) : -1;
    }

    boolean holds(int p, int v) {
        return isLeaf(p) && v >= 1 && held[p].get(v);
    }

    private boolean isLeaf(int p) {
        return p >= 0 && p < leaves.size();
    }

    private Node uppermost() {
        return stack.get(stack.size() - 1);
    }

    private BitSet[] noPairs() {
        BitSet[] none = new BitSet[leaves.size()];
        for (int p = 0; p < none.length; p++) {
            none[p] = new BitSet();
        }
        return none;
    }

    private BitSet starts(int end) {
        BitSet places = new BitSet();
        places.set(0, phase == CountingRegex.SEARCH ? end + 1 : 1);
        return places;
    }

    private void read() {
        held = noPairs();
        accepted = stack.isEmpty() ? new BitSet() : ends(uppermost(), starts(length), length, held);
    }

    private BitSet ends(Node node, BitSet starts, int end, BitSet[] reached) {
        switch (node.kind) {
            case CountingRegex.CAT:
                return ends(node.right, ends(node.left, starts, end, reached), end, reached);
            case CountingRegex.ALT:
                return union(ends(node.left, starts, end, reached), ends(node.right, starts, end, reached));
            case CountingRegex.STAR:
                return repeated(node.left, starts, end, reached);
            case CountingRegex.PLUS:
                return repeated(node.left, ends(node.left, starts, end, reached), end, reached);
            case CountingRegex.OPT:
                return union(starts, ends(node.left, starts, end, reached));
            default:
                return leafEnds(node.leaf, starts, end, reached);
        }
    }

    private BitSet repeated(Node node, BitSet starts, int end, BitSet[] reached) {
        BitSet seen = (BitSet) starts.clone();
        BitSet fresh = starts;
        while (!fresh.isEmpty()) {
            BitSet next = ends(node, fresh, end, reached);
            next.andNot(seen);
            seen.or(next);
            fresh = next;
        }
        return seen;
    }

    private BitSet leafEnds(int p, BitSet starts, int end, BitSet[] reached) {
        Bounds leaf = leaves.get(p);
        BitSet found = new BitSet();
        for (int start = starts.nextSetBit(0); start >= 0; start = starts.nextSetBit(start + 1)) {
            for (int k = 0; k <= leaf.most; k++) {
                if (k > 0 && start + k == end) {
                    reached[p].set(Math.min(k, leaf.top));
                }
                if (k >= leaf.least) {
                    found.set(start + k);
                }
                if (start + k == end || (leaf.mask & 1 << input[start + k]) == 0) {
                    break;
                }
            }
        }
        return found;
    }

    private static BitSet union(BitSet one, BitSet other) {
        BitSet both = (BitSet) one.clone();
        both.or(other);
        return both;
    }
}
