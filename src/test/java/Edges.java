import java.util.SortedSet;
import java.util.TreeSet;

/** The numbers that the tests of boundary cases try, and texts to try them on. */
final class Edges {
    static final int BAD = -1;
    static final int FULL = -2;
    static final int NONE = -3;
    static final int LEAST = Integer.MIN_VALUE;
    static final int GREATEST = Integer.MAX_VALUE;
    static final int LIMIT = 60;

    static final String FULL_TEXT = scattered(LIMIT);

    /** Beside the least and the greatest int: where a sum, a product or a cut to fewer bits would wrap around. */
    private static final int[] FAR = {
        LEAST, LEAST + 1, LEAST + 3, LEAST + 60, -(1 << 30), -65536, -256, -255, -64, -61, -60, -7, -6, -4, -3, -2, -1,
        0, 1, 3, 4, 6, 7, 59, 60, 61, 63, 64, 127, 128, 255, 256, 257, 32767, 32768, 65535, 65536, 65537,
        (1 << 25) + 1, 1 << 30, GREATEST - 60, GREATEST - 59, GREATEST - 6, GREATEST - 3, GREATEST - 1, GREATEST};

    private Edges() {
    }

    /** Numbers that are not from least to greatest, among them the two just outside. */
    static SortedSet<Integer> outside(int least, int greatest) {
        SortedSet<Integer> numbers = new TreeSet<>();
        numbers.add(least - 1);
        numbers.add(greatest + 1);
        for (int number : FAR) {
            if (number < least || number > greatest) {
                numbers.add(number);
            }
        }
        return numbers;
    }

    /** A text of all codes in which no piece is soon repeated, so that a character in a wrong place is seen. */
    static String scattered(int length) {
        Numbers numbers = new Numbers(60);
        StringBuilder codes = new StringBuilder();
        for (int at = 0; at < length; at++) {
            codes.append(numbers.below(7));
        }
        return codes.toString();
    }
}
