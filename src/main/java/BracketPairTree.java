/**
 * Bracket pairs of an edited text, kept up to date in a balanced tree.
 *
 * The tree is a full binary one over LEAVES text positions: node 1 is the root, node n has the
 * children 2n and 2n + 1, and position p is the leaf LEAVES + p. For each kind a node holds how
 * many opening and closing brackets of its stretch are loose when that stretch is read alone.
 */
public final class BracketPairTree {
    public static final int BAD = -1;
    public static final int FULL = -2;
    public static final int NONE = -3;

    private static final int LIMIT = 60;
    private static final int PLAIN = 0;
    private static final int KINDS = 3;
    private static final int GREATEST_CODE = 2 * KINDS;

    private static final int LEVELS = 6;
    private static final int LEAVES = 1 << LEVELS;
    private static final int NODES = 2 * LEAVES;
    // Kinds count from 1, so the part of kind 0 stays unused; that spares a subtraction everywhere.
    private static final int CELLS = (KINDS + 1) * NODES;

    private final int[] codes = new int[LIMIT];
    private final int[] opens = new int[CELLS];
    private final int[] closes = new int[CELLS];
    private int count;

    public BracketPairTree() {
        count = 0;
    }

    public int insert(int at, int code) {
        if (count >= LIMIT) {
            return FULL;
        }
        if (at < 0 || at > count || code < PLAIN || code > GREATEST_CODE) {
            return BAD;
        }
        for (int i = count; i > at; i--) {
            codes[i] = codes[i - 1];
        }
        codes[at] = code;
        count++;
        refreshTree();
        return count;
    }

    public int erase(int from, int length) {
        if (!isStretch(from, length)) {
            return BAD;
        }
        for (int i = from + length; i < count; i++) {
            codes[i - length] = codes[i];
        }
        count -= length;
        refreshTree();
        return count;
    }

    public int move(int from, int length, int to) {
        if (!isStretch(from, length) || to < 0 || to > count - length) {
            return BAD;
        }
        if (to > from) {
            swapNeighbours(from, from + length, to + length);
        } else {
            swapNeighbours(to, from, from + length);
        }
        refreshTree();
        return count;
    }

    public int mirror(int from, int length) {
        if (!isStretch(from, length)) {
            return BAD;
        }
        reverse(from, from + length);
        for (int i = from; i < from + length; i++) {
            codes[i] = mirrored(codes[i]);
        }
        refreshTree();
        return count;
    }

    public int codeAt(int at) {
        return isPosition(at) ? codes[at] : BAD;
    }

    public int partner(int at) {
        if (!isPosition(at)) {
            return BAD;
        }
        int code = codes[at];
        if (code == PLAIN) {
            return NONE;
        }
        return code <= KINDS ? closingRightOf(at, code) : openingLeftOf(at, code - KINDS);
    }

    public int around(int at, int kind) {
        if (!isPosition(at) || !isKind(kind)) {
            return BAD;
        }
        int cut = cutAt(at, kind);
        // The innermost opening bracket left of the cut is the first to find a partner right of it,
        // so if any pair spans the cut, that bracket's pair does.
        return pairsAcross(cut, kind) == 0 ? NONE : openingLeftOf(cut, kind);
    }

    public int depth(int at, int kind) {
        if (!isPosition(at) || !isKind(kind)) {
            return BAD;
        }
        int cut = cutAt(at, kind);
        return pairsAcross(cut, kind);
    }

    public int looseOpen(int from, int length, int kind) {
        if (!isStretch(from, length) || !isKind(kind)) {
            return BAD;
        }
        return opensIn(from, from + length, kind);
    }

    public int looseClose(int from, int length, int kind) {
        if (!isStretch(from, length) || !isKind(kind)) {
            return BAD;
        }
        return closesIn(from, from + length, kind);
    }

    private boolean isPosition(int at) {
        return at >= 0 && at < count;
    }

    private boolean isStretch(int from, int length) {
        // A subtraction, because from + length could overflow.
        return from >= 0 && from <= count && length >= 0 && length <= count - from;
    }

    private static boolean isKind(int kind) {
        return kind >= 1 && kind <= KINDS;
    }

    private static int mirrored(int code) {
        if (code == PLAIN) {
            return PLAIN;
        }
        return code <= KINDS ? code + KINDS : code - KINDS;
    }

    /** Reversing two neighbours each and then both together swaps them without a second array. */
    private void swapNeighbours(int first, int middle, int end) {
        reverse(first, middle);
        reverse(middle, end);
        reverse(first, end);
    }

    private void reverse(int first, int end) {
        int right = end - 1;
        for (int left = first; left < right; left++) {
            int kept = codes[left];
            codes[left] = codes[right];
            codes[right] = kept;
            right--;
        }
    }

    private void refreshTree() {
        for (int kind = 1; kind <= KINDS; kind++) {
            int base = kind * NODES;
            for (int at = 0; at < LEAVES; at++) {
                int code = at < count ? codes[at] : PLAIN;
                opens[base + LEAVES + at] = code == kind ? 1 : 0;
                closes[base + LEAVES + at] = code == kind + KINDS ? 1 : 0;
            }
            for (int node = LEAVES - 1; node >= 1; node--) {
                refreshNode(base + node, base + 2 * node, base + 2 * node + 1);
            }
        }
    }

    private void refreshNode(int cell, int left, int right) {
        int paired = smaller(opens[left], closes[right]);
        opens[cell] = opens[left] + opens[right] - paired;
        closes[cell] = closes[left] + closes[right] - paired;
    }

    /**
     * Where the text is cut in two so that the pairs around a position are just the pairs with one
     * bracket in each part: the bracket at the position must not stand on the side where its own
     * pair would span the cut.
     */
    private int cutAt(int at, int kind) {
        return codes[at] == kind + KINDS ? at + 1 : at;
    }

    private int pairsAcross(int cut, int kind) {
        int left = opensIn(0, cut, kind);
        int right = closesIn(cut, count, kind);
        return smaller(left, right);
    }

    // Every node that is taken covers a position or more, so LIMIT of them cover any stretch.
    private int opensIn(int from, int end, int kind) {
        int loose = 0;
        int at = from;
        for (int taken = 0; taken < LIMIT && at < end; taken++) {
            int level = levelFrom(at, end);
            int cell = kind * NODES + ((LEAVES + at) >> level);
            loose = lessDownToZero(loose, closes[cell]) + opens[cell];
            at += 1 << level;
        }
        return loose;
    }

    private int closesIn(int from, int end, int kind) {
        int loose = 0;
        int stop = end;
        for (int taken = 0; taken < LIMIT && stop > from; taken++) {
            int level = levelUpTo(stop, from);
            int cell = kind * NODES + ((LEAVES + stop - 1) >> level);
            loose = lessDownToZero(loose, opens[cell]) + closes[cell];
            stop -= 1 << level;
        }
        return loose;
    }

    /** The level of the greatest node whose stretch begins at a position and doesn't pass end. */
    private static int levelFrom(int at, int end) {
        int level = 0;
        for (int next = 1; next <= LEVELS; next++) {
            int width = 1 << next;
            if ((at & (width - 1)) == 0 && at + width <= end) {
                level = next;
            }
        }
        return level;
    }

    /** The level of the greatest node whose stretch ends just before stop and doesn't begin before from. */
    private static int levelUpTo(int stop, int from) {
        int level = 0;
        for (int next = 1; next <= LEVELS; next++) {
            int width = 1 << next;
            if ((stop & (width - 1)) == 0 && stop - width >= from) {
                level = next;
            }
        }
        return level;
    }

    /** The closing bracket that pairs with an opening one at a position, or NONE. */
    private int closingRightOf(int at, int kind) {
        int pending = 1;
        for (int level = 0; level < LEVELS; level++) {
            int node = (LEAVES + at) >> level;
            if (node % 2 == 0) {
                int cell = kind * NODES + node + 1;
                if (closes[cell] >= pending) {
                    return closingInside(node + 1, level, kind, pending);
                }
                pending += opens[cell] - closes[cell];
            }
        }
        return NONE;
    }

    private int closingInside(int top, int height, int kind, int before) {
        int node = top;
        int pending = before;
        for (int level = height; level > 0; level--) {
            node = 2 * node;
            int cell = kind * NODES + node;
            if (closes[cell] < pending) {
                pending += opens[cell] - closes[cell];
                node++;
            }
        }
        return node - LEAVES;
    }

    /** The nearest opening bracket left of a position that nothing before the position closes, or NONE. */
    private int openingLeftOf(int at, int kind) {
        int pending = 1;
        for (int level = 0; level < LEVELS; level++) {
            int node = (LEAVES + at) >> level;
            if (node % 2 == 1) {
                int cell = kind * NODES + node - 1;
                if (opens[cell] >= pending) {
                    return openingInside(node - 1, level, kind, pending);
                }
                pending += closes[cell] - opens[cell];
            }
        }
        return NONE;
    }

    private int openingInside(int top, int height, int kind, int before) {
        int node = top;
        int pending = before;
        for (int level = height; level > 0; level--) {
            node = 2 * node + 1;
            int cell = kind * NODES + node;
            if (opens[cell] < pending) {
                pending += closes[cell] - opens[cell];
                node--;
            }
        }
        return node - LEAVES;
    }

    private static int smaller(int a, int b) {
        return a < b ? a : b;
    }

    private static int lessDownToZero(int number, int taken) {
        return number > taken ? number - taken : 0;
    }
}
