/** Numbers without a pattern, the same ones at each run of the tests. */
final class Dice {
    private long state;

    Dice(long seed) {
        state = seed * 0x9E3779B97F4A7C15L + 0x1234567;
        next();
        next();
    }

    long next() {
        state = state * 6364136223846793005L + 1442695040888963407L;
        long mixed = (state ^ (state >>> 33)) * 0xff51afd7ed558ccdL;
        return mixed ^ (mixed >>> 29);
    }

    int below(int bound) {
        return (int) Math.floorMod(next() >>> 8, (long) bound);
    }

    /** A chance of one in so many. */
    boolean oneIn(int many) {
        return below(many) == 0;
    }
}
