/** A fixed sequence of scattered numbers: the same seed gives the same run on every machine. */
final class Numbers {
    private long state;

    Numbers(int seed) {
        state = seed;
    }

    int below(int bound) {
        state = state * 6364136223846793005L + 1442695040888963407L;
        return (int) ((state >>> 33) % bound);
    }

    /** Mostly from 0 to greatest, now and then just outside or far outside. */
    int upTo(int greatest) {
        int[] odd = {-1, greatest + 1, 60, 61, Integer.MIN_VALUE, Integer.MAX_VALUE};
        if (greatest < 0 || greatest == Integer.MAX_VALUE || below(25) == 0) {
            return odd[below(odd.length)];
        }
        return below(greatest + 1);
    }
}
