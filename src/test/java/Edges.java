/** The values at the edges of a range, and just outside of it. */
final class Edges {
    /** No slots. */
    static final int[] NO_SLOTS = outside(0, 3);

    private Edges() {
    }

    static int[] ends(int low, int high) {
        return new int[] {low, high};
    }

    /** One below, one above, and the smallest and the largest int. */
    static int[] outside(int low, int high) {
        return new int[] {low - 1, high + 1, Integer.MIN_VALUE, Integer.MAX_VALUE};
    }

    /** A workbench of that base, with entries of no pattern and of that dimension in slot 0 alone. */
    static RegularSequences sized(int base, int dimension) {
        RegularSequences x = Workbenches.withBase(base);
        x.randomize(0, dimension, 4711);
        return x;
    }
}
