/** Promises 8 to 16 at their edges: a test for each sentence that names one. */
public final class ReadingEdgesTest {
    private static final int NO_SLOT = RegularSequences.NO_SUCH_SLOT;
    private static final int EMPTY = RegularSequences.EMPTY_SLOT;
    private static final int BAD = RegularSequences.BAD_ARGUMENT;
    private static final int NONE = RegularSequences.NONE;

    private static final String SLOT = "- `slot`: the slot, 0 to 3";
    private static final String NO_SLOT_FIRST = "NO_SUCH_SLOT if the slot is out of range (checked first)";
    private static final String EMPTY_SECOND = "EMPTY_SLOT if the slot is empty (checked second)";

    private static final long[] NEGATIVES = {-1L, -2L, Long.MIN_VALUE, Long.MIN_VALUE + 1, Integer.MIN_VALUE};

    public static void main(String[] args) throws ReflectiveOperationException {
        Sentences.runAll(ReadingEdgesTest.class);
    }

    // ---- what the promises share ----

    private interface Question {
        int ask(RegularSequences x, int slot, int argument);
    }

    /** A constant of its own in each slot: 10 in slot 0, 40 in slot 3. */
    private static RegularSequences constants() {
        RegularSequences x = new RegularSequences();
        for (int slot = 0; slot < 4; slot++) {
            x.constant(slot, 10 + 10 * slot);
        }
        return x;
    }

    private static void dueOfFirstAndLastSlot(Question question, int argument, int wantOfFirst, int wantOfLast) {
        Refused.dueIn(ReadingEdgesTest::constants, "slot 0", x -> question.ask(x, 0, argument), wantOfFirst);
        Refused.dueIn(ReadingEdgesTest::constants, "slot 3", x -> question.ask(x, 3, argument), wantOfLast);
    }

    private static void dueOfNoSlot(Question question, int[] arguments) {
        for (int bad : Edges.NO_SLOTS) {
            for (int argument : arguments) {
                Refused.due("slot " + bad + ", " + argument, x -> question.ask(x, bad, argument), NO_SLOT);
            }
        }
    }

    private static void dueOfEmptySlot(Question question, int[] arguments) {
        for (int argument : arguments) {
            Refused.due("empty slot, " + argument, x -> question.ask(x, 2, argument), EMPTY);
            Checks.due("new object, " + argument, question.ask(new RegularSequences(), 0, argument), EMPTY);
        }
    }

    private static void dueOfNoArgument(Question question, int[] arguments) {
        for (int bad : arguments) {
            Refused.due("dimension 2, " + bad, x -> question.ask(x, 0, bad), BAD);
            Refused.due("dimension 0, " + bad, x -> question.ask(x, 1, bad), BAD);
        }
    }

    // ---- promise 8 ----

    @Says(promise = 8, value = SLOT)
    static void dimensionOfFirstAndLastSlot() {
        for (int slot : Edges.ends(0, 3)) {
            RegularSequences x = new RegularSequences();
            x.define(slot, 7);
            Checks.due(x.dimension(slot), 7);
            Checks.due(x.dimension(3 - slot), EMPTY);
        }
    }

    @Says(promise = 8, value = "Returns the dimension")
    static void dimensionZeroAndEight() {
        for (int dimension : Edges.ends(0, 8)) {
            Refused.dueIn(() -> Edges.sized(2, dimension), "dimension", x -> x.dimension(0), dimension);
        }
    }

    @Says(promise = 8, value = NO_SLOT_FIRST)
    static void dimensionOfNoSlot() {
        dueOfNoSlot((x, slot, unused) -> x.dimension(slot), new int[] {0});
    }

    @Says(promise = 8, value = EMPTY_SECOND)
    static void dimensionOfEmptySlot() {
        dueOfEmptySlot((x, slot, unused) -> x.dimension(slot), new int[] {0});
        RegularSequences x = new RegularSequences();
        x.define(0, 0);
        Checks.due("dimension 0 is not empty", x.dimension(0), 0);
        x.clear(0);
        Checks.due(x.dimension(0), EMPTY);
    }

    // ---- promises 9 and 10 ----

    /** Entry i of a vector of that size is 100 + i. */
    private static RegularSequences counting(int size) {
        RegularSequences x = Workbenches.withBase(4);
        x.define(0, size);
        for (int i = 0; i < size; i++) {
            x.setRow(0, i, 100 + i);
            x.setColumn(0, i, 100 + i);
            for (int digit = 0; digit < 4; digit++) {
                x.setEntry(0, digit, i, 0, 100 * digit + i);
                x.setEntry(0, digit, 0, i, 100 * digit + i);
            }
        }
        return x;
    }

    private static void dueAtFirstAndLastIndex(Question question) {
        for (int size = 1; size <= 8; size++) {
            RegularSequences x = counting(size);
            Checks.due(question.ask(x, 0, 0), 100);
            Checks.due(question.ask(x, 0, size - 1), 100 + size - 1);
        }
    }

    private static void dueAtNoIndex(Question question) {
        for (int size : new int[] {0, 1, 2, 7, 8}) {
            for (int bad : Edges.outside(0, size - 1)) {
                Refused.dueIn(() -> Edges.sized(2, size), "index " + bad + " of " + size,
                        x -> question.ask(x, 0, bad), BAD);
            }
        }
    }

    private static final int[] INDICES = {0, -1, 1, 8, Integer.MIN_VALUE, Integer.MAX_VALUE};

    @Says(promise = 9, value = SLOT)
    static void rowOfFirstAndLastSlot() {
        dueOfFirstAndLastSlot(RegularSequences::row, 0, 10, 40);
    }

    @Says(promise = 9, value = {"Returns one entry of the row vector.",
        "- `i`: the index of the entry", "Returns the entry"})
    static void rowAtFirstAndLastIndex() {
        dueAtFirstAndLastIndex(RegularSequences::row);
    }

    @Says(promise = 9, value = "BAD_ARGUMENT if i is not valid.")
    static void rowAtNoIndex() {
        dueAtNoIndex(RegularSequences::row);
    }

    @Says(promise = 9, value = NO_SLOT_FIRST)
    static void rowOfNoSlot() {
        dueOfNoSlot(RegularSequences::row, INDICES);
    }

    @Says(promise = 9, value = EMPTY_SECOND)
    static void rowOfEmptySlot() {
        dueOfEmptySlot(RegularSequences::row, INDICES);
    }

    @Says(promise = 10, value = SLOT)
    static void columnOfFirstAndLastSlot() {
        RegularSequences x = constants();
        x.setColumn(0, 0, 5);
        x.setColumn(3, 0, 6);
        Checks.due(x.column(0, 0), 5);
        Checks.due(x.column(3, 0), 6);
    }

    @Says(promise = 10, value = {"Returns one entry of the column vector.",
        "- `i`: the index of the entry", "Returns the entry"})
    static void columnAtFirstAndLastIndex() {
        dueAtFirstAndLastIndex(RegularSequences::column);
    }

    @Says(promise = 10, value = "BAD_ARGUMENT if i is not valid.")
    static void columnAtNoIndex() {
        dueAtNoIndex(RegularSequences::column);
    }

    @Says(promise = 10, value = NO_SLOT_FIRST)
    static void columnOfNoSlot() {
        dueOfNoSlot(RegularSequences::column, INDICES);
    }

    @Says(promise = 10, value = EMPTY_SECOND)
    static void columnOfEmptySlot() {
        dueOfEmptySlot(RegularSequences::column, INDICES);
    }

    // ---- promise 11 ----

    @Says(promise = 11, value = SLOT)
    static void entryOfFirstAndLastSlot() {
        RegularSequences x = constants();
        x.setEntry(0, 1, 0, 0, 5);
        x.setEntry(3, 1, 0, 0, 6);
        Checks.due(x.entry(0, 1, 0, 0), 5);
        Checks.due(x.entry(3, 1, 0, 0), 6);
        Checks.due(x.entry(1, 1, 0, 0), 1);
    }

    @Says(promise = 11, value = {"Returns one entry of the matrix of a digit.",
        "- `digit`: the digit", "Returns the entry"})
    static void entryOfFirstAndLastDigit() {
        for (int base = 2; base <= 4; base++) {
            RegularSequences x = Workbenches.withBase(base);
            x.numbers(0);
            Checks.due(x.entry(0, 0, 1, 0), 0);
            Checks.due(x.entry(0, base - 1, 1, 0), base - 1);
            Checks.due(x.entry(0, base, 1, 0), BAD);
        }
    }

    @Says(promise = 11, value = "BAD_ARGUMENT if digit, i or j is not valid.")
    static void entryOfNoDigit() {
        for (int base = 2; base <= 4; base++) {
            int own = base;
            for (int bad : Edges.outside(0, base - 1)) {
                Refused.dueIn(() -> Edges.sized(own, 2), "digit " + bad + " in base " + base,
                        x -> x.entry(0, bad, 0, 0), BAD);
            }
        }
    }

    @Says(promise = 11, value = "- `i`: the row index")
    static void entryInFirstAndLastRow() {
        dueAtFirstAndLastIndex((x, slot, i) -> x.entry(slot, 1, i, 0));
    }

    @Says(promise = 11, value = "BAD_ARGUMENT if digit, i or j is not valid.")
    static void entryInNoRow() {
        dueAtNoIndex((x, slot, i) -> x.entry(slot, 1, i, 0));
    }

    @Says(promise = 11, value = "- `j`: the column index")
    static void entryInFirstAndLastColumn() {
        dueAtFirstAndLastIndex((x, slot, j) -> x.entry(slot, 1, 0, j));
    }

    @Says(promise = 11, value = "BAD_ARGUMENT if digit, i or j is not valid.")
    static void entryInNoColumn() {
        dueAtNoIndex((x, slot, j) -> x.entry(slot, 1, 0, j));
        Refused.due("row and column", x -> x.entry(0, 0, 2, -1), BAD);
        Refused.due("digit, row and column", x -> x.entry(0, 3, 2, 2), BAD);
    }

    @Says(promise = 11, value = NO_SLOT_FIRST)
    static void entryOfNoSlot() {
        dueOfNoSlot((x, slot, i) -> x.entry(slot, 0, i, 0), INDICES);
        dueOfNoSlot((x, slot, i) -> x.entry(slot, i, -1, i), INDICES);
    }

    @Says(promise = 11, value = EMPTY_SECOND)
    static void entryOfEmptySlot() {
        dueOfEmptySlot((x, slot, i) -> x.entry(slot, 0, 0, i), INDICES);
        dueOfEmptySlot((x, slot, i) -> x.entry(slot, i, i, -1), INDICES);
    }

    // ---- promise 12 ----

    @Says(promise = 12, value = SLOT)
    static void valueOfFirstAndLastSlot() {
        dueOfFirstAndLastSlot(RegularSequences::value, 5, 10, 40);
    }

    @Says(promise = 12, value = {"Returns the value of a sequence on the digit string of a number.",
        "- `n`: the number, at least 0"})
    static void valueOfSmallestAndLargestNumber() {
        for (int base = 2; base <= 4; base++) {
            Shape shape = Shape.scattered(base, 3, 12 + base, 10006);
            for (long n : new long[] {0, 1, base - 1, base, Integer.MAX_VALUE, 1L + Integer.MAX_VALUE,
                Long.MAX_VALUE - 1, Long.MAX_VALUE}) {
                RegularSequences x = Workbenches.withBase(base);
                shape.putInto(x, 0);
                Checks.due("value of " + n, x.value(0, n), shape.value(Shape.digits(n, base, 0)));
                shape.dueIn(x, 0);
            }
        }
    }

    @Says(promise = 12, value = "BAD_ARGUMENT if n is negative.")
    static void valueOfNegativeNumber() {
        for (long bad : NEGATIVES) {
            Refused.due("value of " + bad, x -> x.value(0, bad), BAD);
            Refused.due("value of " + bad, x -> x.value(1, bad), BAD);
        }
    }

    @Says(promise = 12, value = "Returns the value, 0 to 10006")
    static void lowestAndHighestValue() {
        RegularSequences x = new RegularSequences();
        x.numbers(0);
        Checks.due(x.value(0, 10006L), 10006);
        Checks.due(x.value(0, 10007L), 0);
        Checks.due(x.value(0, 10008L), 1);
        Checks.due(x.value(0, 20013L), 10006);
        Checks.due(x.value(0, 0L), 0);
    }

    @Says(promise = 12, value = NO_SLOT_FIRST)
    static void valueOfNoSlot() {
        dueOfNoSlot(RegularSequences::value, new int[] {0, 1, -1, Integer.MIN_VALUE});
        dueOfNoSlot((x, slot, unused) -> x.value(slot, Long.MIN_VALUE), new int[] {0});
    }

    @Says(promise = 12, value = EMPTY_SECOND)
    static void valueOfEmptySlot() {
        dueOfEmptySlot(RegularSequences::value, new int[] {0, 1, -1, Integer.MIN_VALUE});
        dueOfEmptySlot((x, slot, unused) -> x.value(slot, Long.MIN_VALUE), new int[] {0});
    }

    // ---- promise 13 ----

    @Says(promise = 13, value = SLOT)
    static void paddedValueOfFirstAndLastSlot() {
        dueOfFirstAndLastSlot((x, slot, length) -> x.paddedValue(slot, 5, length), 3, 10, 40);
    }

    @Says(promise = 13, value = {
        "Returns the value of a sequence on the digits of a number, padded with leading zeros to a given length.",
        "- `n`: the number, at least 0"})
    static void paddedValueOfSmallestNumber() {
        RegularSequences x = new RegularSequences();
        x.digitCount(0, 0);
        for (int length = 0; length <= 20; length++) {
            Checks.due(x.paddedValue(0, 0L, length), length);
        }
        Checks.due(x.paddedValue(0, 1L, 1), 0);
    }

    @Says(promise = 13, value = "BAD_ARGUMENT if n is negative")
    static void paddedValueOfNegativeNumber() {
        for (long bad : NEGATIVES) {
            for (int length : new int[] {0, 20, -1, 21}) {
                Refused.due(bad + " of length " + length, x -> x.paddedValue(0, bad, length), BAD);
            }
        }
    }

    @Says(promise = 13, value = "- `length`: the length of the string, 0 to 20")
    static void paddedValueOfSmallestAndLargestLength() {
        for (int base = 2; base <= 4; base++) {
            Shape shape = Shape.scattered(base, 4, 13 + base, 10006);
            RegularSequences x = Workbenches.withBase(base);
            shape.putInto(x, 0);
            Checks.due(x.paddedValue(0, 0L, 0), Shape.dot(shape.row, shape.column));
            long power = shape.strings(19);
            for (long n : new long[] {0, 1, power - 1, power, power * base - 1}) {
                Checks.due(n + " of length 20", x.paddedValue(0, n, 20), shape.value(Shape.digits(n, base, 20)));
            }
        }
    }

    @Says(promise = 13, value = "Returns the value, 0 to 10006")
    static void lowestAndHighestPaddedValue() {
        RegularSequences x = new RegularSequences();
        x.numbers(0);
        Checks.due(x.paddedValue(0, 10006L, 20), 10006);
        Checks.due(x.paddedValue(0, 10007L, 20), 0);
        Checks.due(x.paddedValue(0, 10008L, 20), 1);
        x.constant(0, 10006);
        Checks.due(x.paddedValue(0, 0L, 0), 10006);
        Checks.due(x.paddedValue(0, 0L, 20), 10006);
    }

    @Says(promise = 13, value = "if length is out of range")
    static void paddedValueOfLengthOutOfRange() {
        for (int bad : Edges.outside(0, 20)) {
            for (long n : new long[] {0, 1, Long.MAX_VALUE}) {
                Refused.due(n + " of length " + bad, x -> x.paddedValue(0, n, bad), BAD);
            }
        }
    }

    @Says(promise = 13, value = "if n has more than length digits.")
    static void paddedValueOfTooManyDigits() {
        for (int base = 2; base <= 4; base++) {
            int own = base;
            Shape numbers = Shape.numbers(base);
            for (int length = 0; length <= 20; length++) {
                int digits = length;
                long tooLarge = numbers.strings(length);
                RegularSequences x = Workbenches.withBase(base);
                x.numbers(0);
                Checks.due("as many digits", x.paddedValue(0, tooLarge - 1, length), (tooLarge - 1) % 10007);
                Refused.dueIn(() -> Edges.sized(own, 2), "one digit more than " + length,
                        y -> y.paddedValue(0, tooLarge, digits), BAD);
                Checks.due("most digits", x.paddedValue(0, Long.MAX_VALUE, length), BAD);
            }
        }
    }

    @Says(promise = 13, value = NO_SLOT_FIRST)
    static void paddedValueOfNoSlot() {
        dueOfNoSlot((x, slot, length) -> x.paddedValue(slot, 0, length), new int[] {0, 20, -1, 21});
        dueOfNoSlot((x, slot, length) -> x.paddedValue(slot, -1, length), new int[] {0, 20, -1, 21});
        dueOfNoSlot((x, slot, length) -> x.paddedValue(slot, 9, length), new int[] {1});
    }

    @Says(promise = 13, value = EMPTY_SECOND)
    static void paddedValueOfEmptySlot() {
        dueOfEmptySlot((x, slot, length) -> x.paddedValue(slot, 0, length), new int[] {0, 20, -1, 21});
        dueOfEmptySlot((x, slot, length) -> x.paddedValue(slot, -1, length), new int[] {0, 20, -1, 21});
        dueOfEmptySlot((x, slot, length) -> x.paddedValue(slot, 9, length), new int[] {1});
    }

    // ---- promise 14 ----

    @Says(promise = 14, value = SLOT)
    static void sumOfFirstAndLastSlot() {
        dueOfFirstAndLastSlot(RegularSequences::sumOfLength, 3, 80, 320);
    }

    @Says(promise = 14, value = "- `length`: the length, 0 to 1000000000")
    static void sumOfSmallestLength() {
        for (int base = 2; base <= 4; base++) {
            Shape shape = Shape.scattered(base, 3, 14 + base, 10006);
            RegularSequences x = Workbenches.withBase(base);
            shape.putInto(x, 0);
            Checks.due("the empty string", x.sumOfLength(0, 0), shape.value(new int[0]));
            int sum = 0;
            for (int digit = 0; digit < base; digit++) {
                sum += shape.value(new int[] {digit});
            }
            Checks.due("the digits", x.sumOfLength(0, 1), sum % 10007);
        }
    }

    @Says(promise = 14, value = "- `length`: the length, 0 to 1000000000")
    static void sumOfLargestLength() {
        for (int base = 2; base <= 4; base++) {
            for (int length : new int[] {999999999, 1000000000}) {
                RegularSequences x = Workbenches.withBase(base);
                x.numbers(0);
                x.constant(1, 1);
                long strings = power(base, length);
                Checks.due(x.sumOfLength(1, length), strings);
                // 0 + 1 + .. + (s - 1) is s * (s - 1) / 2, and 5004 is the half of 1 modulo 10007.
                Checks.due(x.sumOfLength(0, length), strings * (strings + 10006) % 10007 * 5004 % 10007);
            }
        }
    }

    private static long power(int base, int exponent) {
        java.math.BigInteger prime = java.math.BigInteger.valueOf(10007);
        return java.math.BigInteger.valueOf(base).modPow(java.math.BigInteger.valueOf(exponent), prime).longValue();
    }

    @Says(promise = 14, value = {
        "Returns the sum, modulo 10007, of the values of a sequence on all digit strings of a given length.",
        "Returns the sum, 0 to 10006"})
    static void lowestAndHighestSum() {
        RegularSequences x = new RegularSequences();
        x.constant(0, 5003);
        Checks.due("5003 twice", x.sumOfLength(0, 1), 10006);
        x.constant(0, 5004);
        Checks.due("5004 twice", x.sumOfLength(0, 1), 1);
        x.constant(0, 0);
        Checks.due(x.sumOfLength(0, 1000000000), 0);
        x.constant(0, 10006);
        Checks.due("minus 1, 8 times", x.sumOfLength(0, 3), 9999);
    }

    @Says(promise = 14, value = "BAD_ARGUMENT if length is out of range.")
    static void sumOfLengthOutOfRange() {
        dueOfNoArgument(RegularSequences::sumOfLength, Edges.outside(0, 1000000000));
    }

    private static final int[] LENGTHS = {0, 1000000000, -1, 1000000001, Integer.MIN_VALUE, Integer.MAX_VALUE};

    @Says(promise = 14, value = NO_SLOT_FIRST)
    static void sumOfNoSlot() {
        dueOfNoSlot(RegularSequences::sumOfLength, LENGTHS);
    }

    @Says(promise = 14, value = EMPTY_SECOND)
    static void sumOfEmptySlot() {
        dueOfEmptySlot(RegularSequences::sumOfLength, LENGTHS);
    }

    // ---- promise 15 ----

    @Says(promise = 15, value = SLOT)
    static void zerosOfFirstAndLastSlot() {
        for (int slot : Edges.ends(0, 3)) {
            RegularSequences x = constants();
            x.constant(slot, 0);
            Checks.due(x.countZeros(slot, 4), 16);
            Checks.due(x.countZeros(3 - slot, 4), 0);
        }
    }

    @Says(promise = 15, value = {"Returns how many digit strings of a given length have the value 0.",
        "- `length`: the length, 0 to 8", "Returns the number of strings"})
    static void zerosOfSmallestAndLargestLength() {
        int[] strings = {0, 0, 256, 6561, 65536};
        for (int base = 2; base <= 4; base++) {
            RegularSequences x = Workbenches.withBase(base);
            x.numbers(0);
            Checks.due("the empty string alone", x.countZeros(0, 0), 1);
            x.constant(1, 1);
            Checks.due(x.countZeros(1, 0), 0);
            Checks.due(x.countZeros(1, 8), 0);
            x.define(2, 8);
            Checks.due(x.countZeros(2, 0), 1);
            Checks.due(x.countZeros(2, 8), strings[base]);
            x.digitCount(3, 0);
            Checks.due("strings without a 0", x.countZeros(3, 8), Math.round(Math.pow(base - 1, 8)));
        }
    }

    @Says(promise = 15, value = "BAD_ARGUMENT if length is out of range.")
    static void zerosOfLengthOutOfRange() {
        dueOfNoArgument(RegularSequences::countZeros, Edges.outside(0, 8));
    }

    private static final int[] COUNT_LENGTHS = {0, 8, -1, 9, Integer.MIN_VALUE, Integer.MAX_VALUE};

    @Says(promise = 15, value = NO_SLOT_FIRST)
    static void zerosOfNoSlot() {
        dueOfNoSlot(RegularSequences::countZeros, COUNT_LENGTHS);
    }

    @Says(promise = 15, value = EMPTY_SECOND)
    static void zerosOfEmptySlot() {
        dueOfEmptySlot(RegularSequences::countZeros, COUNT_LENGTHS);
    }

    // ---- promise 16 ----

    @Says(promise = 16, value = SLOT)
    static void firstZeroOfFirstAndLastSlot() {
        for (int slot : Edges.ends(0, 3)) {
            RegularSequences x = constants();
            x.digitCount(slot, 1);
            Checks.due(x.firstZero(slot), 0);
            Checks.due(x.firstZero(3 - slot), NONE);
        }
    }

    /** The value of n is n - place. */
    private static RegularSequences zeroAt(int base, int place) {
        RegularSequences x = Workbenches.withBase(base);
        x.numbers(0);
        x.constant(1, place);
        x.subtract(0, 0, 1);
        return x;
    }

    @Says(promise = 16, value = {"Returns the lowest number n from 0 to 4095 whose value is 0.", "Returns the number"})
    static void firstZeroAtFirstAndLastNumber() {
        for (int base = 2; base <= 4; base++) {
            int own = base;
            for (int place : new int[] {0, 1, 4094, 4095}) {
                Refused.dueIn(() -> zeroAt(own, place), "zero at " + place, x -> x.firstZero(0), place);
            }
        }
    }

    @Says(promise = 16, value = "NONE if there is no such number.")
    static void firstZeroBehindTheLastNumber() {
        for (int base = 2; base <= 4; base++) {
            int own = base;
            for (int place : new int[] {4096, 4097, 10006}) {
                Refused.dueIn(() -> zeroAt(own, place), "zero at " + place, x -> x.firstZero(0), NONE);
            }
        }
        RegularSequences x = new RegularSequences();
        Workbenches.build(x, 0, new int[] {1, 0}, new int[][][] {{{0, 0}, {0, 1}}, {{0, 1}, {0, 1}}}, new int[] {1, 1});
        Checks.due("a zero on the string 0, which is no number's", x.countZeros(0, 1), 1);
        Checks.due(x.firstZero(0), NONE);
    }

    @Says(promise = 16, value = NO_SLOT_FIRST)
    static void firstZeroOfNoSlot() {
        dueOfNoSlot((x, slot, unused) -> x.firstZero(slot), new int[] {0});
    }

    @Says(promise = 16, value = EMPTY_SECOND)
    static void firstZeroOfEmptySlot() {
        dueOfEmptySlot((x, slot, unused) -> x.firstZero(slot), new int[] {0});
    }
}
