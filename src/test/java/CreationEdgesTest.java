/** Promises 26 to 29 at their edges: a test for each sentence that names one. */
public final class CreationEdgesTest {
    private static final int NO_SLOT = RegularSequences.NO_SUCH_SLOT;
    private static final int EMPTY = RegularSequences.EMPTY_SLOT;
    private static final int BAD = RegularSequences.BAD_ARGUMENT;

    private static final String DEST = "- `dest`: the slot that receives the result, 0 to 3";
    private static final String NO_SLOT_FIRST = "NO_SUCH_SLOT if dest is out of range (checked first)";

    public static void main(String[] args) throws ReflectiveOperationException {
        Sentences.runAll(CreationEdgesTest.class);
    }

    private interface Creation {
        int make(RegularSequences x, int dest, int argument);
    }

    /** Over something larger and over something empty; nothing but the one slot changes. */
    private static void dueInEachSlot(Creation creation, int argument, Shape want) {
        for (int dest = 0; dest < 4; dest++) {
            RegularSequences x = Edges.sized(want.base, 8);
            Checks.due("into slot " + dest, creation.make(x, dest, argument), want.size);
            want.dueIn(x, dest);
            for (int other = 0; other < 4; other++) {
                if (other != dest) {
                    Checks.due(x.dimension(other), other == 0 ? 8 : EMPTY);
                }
            }
        }
    }

    private static void dueInNoSlot(Creation creation, int[] arguments) {
        for (int bad : Edges.NO_SLOTS) {
            for (int argument : arguments) {
                Refused.due("slot " + bad + ", " + argument, x -> creation.make(x, bad, argument), NO_SLOT);
            }
        }
    }

    private static void dueOfNoArgument(Creation creation, int[] arguments) {
        for (int bad : arguments) {
            for (int dest = 0; dest < 4; dest++) {
                int into = dest;
                Refused.due("into slot " + dest + ", " + bad, x -> creation.make(x, into, bad), BAD);
            }
        }
    }

    // ---- promise 26 ----

    @Says(promise = 26, value = {DEST, "Returns 1"})
    static void constantInEachSlot() {
        dueInEachSlot(RegularSequences::constant, 10006, Shape.constant(2, 10006));
    }

    @Says(promise = 26, value = "- `c`: the value, 0 to 10006")
    static void lowestAndHighestConstant() {
        for (int base = 2; base <= 4; base++) {
            for (int c : Edges.ends(0, 10006)) {
                RegularSequences x = Workbenches.withBase(base);
                Checks.due(x.constant(0, c), 1);
                Shape.constant(base, c).dueIn(x, 0);
                Checks.due(x.value(0, 0L), c);
                Checks.due(x.value(0, Long.MAX_VALUE), c);
                Checks.due(x.paddedValue(0, 0L, 20), c);
                Checks.due("the dimension is 1 for 0 too", x.dimension(0), 1);
            }
        }
    }

    @Says(promise = 26, value = "BAD_ARGUMENT if c is out of range.")
    static void constantOutOfRange() {
        dueOfNoArgument(RegularSequences::constant, Edges.outside(0, 10006));
    }

    @Says(promise = 26, value = NO_SLOT_FIRST)
    static void constantInNoSlot() {
        dueInNoSlot(RegularSequences::constant, new int[] {0, 10006, -1, 10007, Integer.MIN_VALUE, Integer.MAX_VALUE});
    }

    // ---- promise 27 ----

    @Says(promise = 27, value = {DEST, "Returns 2"})
    static void digitCountInEachSlot() {
        dueInEachSlot(RegularSequences::digitCount, 1, Shape.digitCount(2, 1));
    }

    @Says(promise = 27, value = "- `digit`: the digit to count")
    static void digitCountOfFirstAndLastDigit() {
        for (int base = 2; base <= 4; base++) {
            for (int digit : Edges.ends(0, base - 1)) {
                RegularSequences x = Workbenches.withBase(base);
                Checks.due(x.digitCount(0, digit), 2);
                Shape.digitCount(base, digit).dueIn(x, 0);
                Checks.due("the empty string has no digits", x.value(0, 0L), 0);
                Checks.due(x.paddedValue(0, 0L, 20), digit == 0 ? 20 : 0);
                Checks.due(x.paddedValue(0, base - 1, 20), digit == 0 ? 19 : 1);
            }
        }
    }

    @Says(promise = 27, value = "BAD_ARGUMENT if digit is not a digit of the base.")
    static void digitCountOfNoDigit() {
        dueOfNoArgument(RegularSequences::digitCount, Edges.outside(0, 2));
        for (int base = 2; base <= 4; base++) {
            int own = base;
            for (int bad : Edges.outside(0, base - 1)) {
                Refused.dueIn(() -> Edges.sized(own, 2), "digit " + bad + " in base " + base,
                        x -> x.digitCount(0, bad), BAD);
                Refused.dueIn(() -> Edges.sized(own, 2), "into an empty slot", x -> x.digitCount(1, bad), BAD);
            }
        }
    }

    @Says(promise = 27, value = NO_SLOT_FIRST)
    static void digitCountInNoSlot() {
        dueInNoSlot(RegularSequences::digitCount, new int[] {0, 2, -1, 3, Integer.MIN_VALUE, Integer.MAX_VALUE});
    }

    // ---- promise 28 ----

    @Says(promise = 28, value = {DEST, "Returns 2"})
    static void numbersInEachSlot() {
        for (int base = 2; base <= 3; base++) {
            dueInEachSlot((x, dest, unused) -> x.numbers(dest), 0, Shape.numbers(base));
        }
    }

    @Says(promise = 28, value = "NO_SUCH_SLOT if dest is out of range.")
    static void numbersInNoSlot() {
        dueInNoSlot((x, dest, unused) -> x.numbers(dest), new int[] {0});
    }

    @Says(promise = 28, value = "Stores the sequence whose value is the number that the string denotes, modulo 10007")
    static void numbersWrapAround() {
        for (int base = 2; base <= 4; base++) {
            RegularSequences x = Workbenches.withBase(base);
            x.numbers(0);
            for (long n : new long[] {0, 1, 10006, 10007, 10008, 20013, 20014, 10007L * 10007 - 1, 10007L * 10007,
                Integer.MAX_VALUE, 1L + Integer.MAX_VALUE, Long.MAX_VALUE - 1, Long.MAX_VALUE}) {
                Checks.due(n + " in base " + base, x.value(0, n), n % 10007);
            }
            Checks.due("0 in 20 digits", x.paddedValue(0, 0L, 20), 0);
            Checks.due("1 in 20 digits", x.paddedValue(0, 1L, 20), 1);
        }
    }

    // ---- promise 29 ----

    @Says(promise = 29, value = {DEST, "Returns the dimension"})
    static void randomizeInEachSlot() {
        dueInEachSlot((x, dest, seed) -> x.randomize(dest, 5, seed), 77, Shape.random(2, 5, 77));
    }

    @Says(promise = 29, value = "- `dimension`: the dimension, 0 to 8")
    static void randomizeSmallestAndLargestDimension() {
        for (int base = 2; base <= 4; base++) {
            for (int dimension : Edges.ends(0, 8)) {
                RegularSequences x = Workbenches.withBase(base);
                x.numbers(0);
                Checks.due(x.randomize(0, dimension, 1), dimension);
                Shape.random(base, dimension, 1).dueIn(x, 0);
                Checks.due(x.randomize(1, dimension, 1), dimension);
                Checks.due(x.dimension(1), dimension);
            }
        }
    }

    @Says(promise = 29, value = "BAD_ARGUMENT if the dimension is out of range.")
    static void randomizeDimensionOutOfRange() {
        for (int seed : new int[] {0, Integer.MIN_VALUE, Integer.MAX_VALUE}) {
            dueOfNoArgument((x, dest, dimension) -> x.randomize(dest, dimension, seed), Edges.outside(0, 8));
        }
    }

    @Says(promise = 29, value = NO_SLOT_FIRST)
    static void randomizeInNoSlot() {
        dueInNoSlot((x, dest, dimension) -> x.randomize(dest, dimension, 5), new int[] {0, 8, -1, 9, Integer.MIN_VALUE,
            Integer.MAX_VALUE});
    }

    /** With numbers that do not overflow: the state is what is left of them modulo 2 to the power of 32. */
    private static int[] draws(int seed, int count) {
        java.math.BigInteger factor = java.math.BigInteger.valueOf(1103515245);
        java.math.BigInteger summand = java.math.BigInteger.valueOf(12345);
        java.math.BigInteger states = java.math.BigInteger.ONE.shiftLeft(32);
        java.math.BigInteger state = java.math.BigInteger.valueOf(seed);
        int[] draws = new int[count];
        for (int k = 0; k < count; k++) {
            state = state.multiply(factor).add(summand).mod(states);
            draws[k] = state.shiftRight(16).intValueExact() % 3;
        }
        return draws;
    }

    @Says(promise = 29, value = {
        "The entries are drawn in this order: the row vector; for each digit, starting with 0, "
            + "the rows of its matrix from the first to the last, each from left to right; the column vector.",
        "the state, an int, is replaced by state * 1103515245 + 12345 with int overflow, "
            + "and the entry is ((state >>> 16) % 3).",
        "- `seed`: the initial state", "The initial state is the seed."})
    static void randomizeOverflows() {
        for (int seed : new int[] {0, 1, -1, 2, 3, 65535, 65536, 1 << 30, 1103515245, Integer.MIN_VALUE,
            Integer.MIN_VALUE + 1, Integer.MAX_VALUE - 1, Integer.MAX_VALUE}) {
            RegularSequences x = new RegularSequences();
            Checks.due(x.randomize(2, 4, seed), 4);
            int[] draws = draws(seed, 40);
            for (int i = 0; i < 4; i++) {
                Checks.due("row, seed " + seed, x.row(2, i), draws[i]);
                Checks.due("column, seed " + seed, x.column(2, i), draws[36 + i]);
                for (int j = 0; j < 4; j++) {
                    Checks.due("matrix of 0, seed " + seed, x.entry(2, 0, i, j), draws[4 + 4 * i + j]);
                    Checks.due("matrix of 1, seed " + seed, x.entry(2, 1, i, j), draws[20 + 4 * i + j]);
                }
            }
        }
    }

    @Says(promise = 29, value = "The initial state is the seed.")
    static void randomizeStartsAnewEachTime() {
        RegularSequences x = new RegularSequences();
        x.randomize(0, 2, 6);
        x.randomize(1, 2, 5);
        x.randomize(2, 2, 6);
        Checks.due(x.areEqual(0, 2), 1);
        Shape.random(2, 2, 6).dueIn(x, 2);
        x.randomize(3, 0, 9);
        x.randomize(3, 2, 6);
        Shape.random(2, 2, 6).dueIn(x, 3);
    }
}
