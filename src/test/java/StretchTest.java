/**
 * "it is A STRETCH OF THE TEXT iff from >= 0, length >= 0 and from + length (as a sum that can't overflow) is
 * at most the number of characters": each part of this sentence, for each method that takes a stretch.
 */
public final class StretchTest {
    private static final int BAD = Edges.BAD;
    private static final int LEAST = Edges.LEAST;
    private static final int GREATEST = Edges.GREATEST;
    private static final int LIMIT = Edges.LIMIT;

    private static final int[] TEXT_LENGTHS = {0, 1, 2, 31, 32, 33, 59, LIMIT};

    private static final Check CHECK = new Check("StretchTest");

    public static void main(String[] args) {
        for (int count : TEXT_LENGTHS) {
            fromIsAtLeast0(count);
            lengthIsAtLeast0(count);
            theSumIsAtMostTheCount(count);
            theEmptyStretch(count);
            theSumCannotOverflow(count);
        }
        everySmallStretch();
        CHECK.finish();
    }

    private static void fromIsAtLeast0(int count) {
        isStretch(count, 0, count);
        int[] below = {-1, -2, -LIMIT, -LIMIT - 1, LEAST + LIMIT, LEAST + 1, LEAST};
        for (int from : below) {
            isNoStretch(count, from, 0);
            isNoStretch(count, from, 1);
            isNoStretch(count, from, GREATEST);
            isNoStretch(count, from, count - from);
            isNoStretch(count, from, -from);
        }
    }

    private static void lengthIsAtLeast0(int count) {
        isStretch(count, count, 0);
        int[] below = {-1, -2, -LIMIT, -LIMIT - 1, LEAST + LIMIT, LEAST + 1, LEAST};
        for (int length : below) {
            isNoStretch(count, 0, length);
            isNoStretch(count, count, length);
            isNoStretch(count, GREATEST, length);
            isNoStretch(count, count - length, length);
            isNoStretch(count, -length, length);
        }
    }

    private static void theSumIsAtMostTheCount(int count) {
        for (int from = 0; from <= count; from++) {
            isStretch(count, from, count - from);
            isNoStretch(count, from, count - from + 1);
            isNoStretch(count, from + 1, count - from);
        }
        isNoStretch(count, 0, LIMIT + 1);
        isNoStretch(count, LIMIT + 1, 0);
    }

    private static void theEmptyStretch(int count) {
        for (int from = 0; from <= count; from++) {
            isStretch(count, from, 0);
        }
        isNoStretch(count, count + 1, 0);
        isNoStretch(count, -1, 0);
    }

    private static void theSumCannotOverflow(int count) {
        for (int one = 0; one <= count; one++) {
            isNoStretch(count, one, GREATEST);
            isNoStretch(count, GREATEST, one);
            isNoStretch(count, one, GREATEST - one);
            isNoStretch(count, one, GREATEST - one + 1);
            isNoStretch(count, GREATEST - one, one);
            isNoStretch(count, GREATEST - one + 1, one);
        }
        isNoStretch(count, GREATEST, GREATEST);
        isNoStretch(count, 1 << 30, 1 << 30);
        isNoStretch(count, LEAST, LEAST);
        isNoStretch(count, LEAST, GREATEST);
        isNoStretch(count, GREATEST, LEAST);
        isNoStretch(count, LEAST, LEAST + count);
        isNoStretch(count, LEAST + count, LEAST);
    }

    private static void everySmallStretch() {
        for (int count = 0; count <= 5; count++) {
            for (int from = -2; from <= count + 2; from++) {
                for (int length = -2; length <= count + 2; length++) {
                    if (from >= 0 && length >= 0 && from + length <= count) {
                        isStretch(count, from, length);
                    } else {
                        isNoStretch(count, from, length);
                    }
                }
            }
        }
    }

    private static void isStretch(int count, int from, int length) {
        String codes = Edges.scattered(count);
        String before = codes.substring(0, from);
        String inside = codes.substring(from, from + length);
        String behind = codes.substring(from + length);

        Subject erased = new Subject(CHECK, codes);
        erased.due(count - length, "erase", from, length);
        erased.textIs(before + behind);

        Subject moved = new Subject(CHECK, codes);
        moved.due(count, "move", from, length, 0);
        moved.textIs(inside + before + behind);

        Subject mirrored = new Subject(CHECK, codes);
        mirrored.due(count, "mirror", from, length);
        mirrored.textIs(before + mirror(inside) + behind);

        Subject asked = new Subject(CHECK, codes);
        for (int kind = 1; kind <= 3; kind++) {
            asked.loose(from, length, kind, looseOpening(inside, kind), looseClosing(inside, kind));
        }
        asked.textIs(codes);
    }

    private static void isNoStretch(int count, int from, int length) {
        String codes = Edges.scattered(count);
        Subject x = new Subject(CHECK, codes);
        x.due(BAD, "erase", from, length);
        x.due(BAD, "move", from, length, 0);
        x.due(BAD, "mirror", from, length);
        for (int kind = 1; kind <= 3; kind++) {
            x.loose(from, length, kind, BAD, BAD);
        }
        x.textIs(codes);
    }

    private static String mirror(String codes) {
        StringBuilder mirrored = new StringBuilder();
        for (char code : codes.toCharArray()) {
            mirrored.insert(0, "0456123".charAt(code - '0'));
        }
        return mirrored.toString();
    }

    private static int looseOpening(String codes, int kind) {
        return looseClosing(mirror(codes), kind);
    }

    /** A closing bracket is loose where no opening one before it still waits. */
    private static int looseClosing(String codes, int kind) {
        int waiting = 0;
        int loose = 0;
        for (char code : codes.toCharArray()) {
            if (code == '0' + kind) {
                waiting++;
            } else if (code == '3' + kind && waiting > 0) {
                waiting--;
            } else if (code == '3' + kind) {
                loose++;
            }
        }
        return loose;
    }
}
