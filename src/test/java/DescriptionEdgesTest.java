/**
 * The description, but for what it says of programs, and the list of constants at their edges: a test
 * for each sentence that names one.
 */
public final class DescriptionEdgesTest {
    private static final int NO_SLOT = RegularSequences.NO_SUCH_SLOT;
    private static final int EMPTY = RegularSequences.EMPTY_SLOT;
    private static final int BAD = RegularSequences.BAD_ARGUMENT;
    private static final int FULL = RegularSequences.BUFFER_FULL;
    private static final int SYNTAX = RegularSequences.SYNTAX_ERROR;
    private static final int NOTHING = RegularSequences.NOTHING_SAVED;
    private static final int NONE = RegularSequences.NONE;

    public static void main(String[] args) throws ReflectiveOperationException {
        Sentences.runAll(DescriptionEdgesTest.class);
    }

    // ---- arithmetic ----

    private static final String MODULO = "All additions and multiplications are modulo 10007.";

    @Says(promise = 0, value = "All values, vector entries and matrix entries are integers modulo 10007, "
            + "stored as 0 to 10006.")
    static void entriesAreNotReduced() {
        RegularSequences x = new RegularSequences();
        x.define(0, 1);
        for (int v : new int[] {0, 1, 10005, 10006}) {
            x.setRow(0, 0, v);
            x.setColumn(0, 0, v);
            x.setEntry(0, 1, 0, 0, v);
            Checks.due(x.row(0, 0), v);
            Checks.due(x.column(0, 0), v);
            Checks.due(x.entry(0, 1, 0, 0), v);
        }
        Checks.due("10007 is not taken for 0", x.setRow(0, 0, 10007), BAD);
        Checks.due("nor -1 for 10006", x.setColumn(0, 0, -1), BAD);
        Checks.due(x.setEntry(0, 1, 0, 0, 20013), BAD);
        Checks.due(x.row(0, 0), 10006);
        Checks.due(x.column(0, 0), 10006);
        Checks.due(x.entry(0, 1, 0, 0), 10006);
    }

    /** All entries are 10006, which is minus 1: the value on a string of length k is minus 8, k + 1 times, negated. */
    private static RegularSequences minusOnes(int base) {
        RegularSequences x = Workbenches.withBase(base);
        x.define(0, 8);
        for (int i = 0; i < 8; i++) {
            x.setRow(0, i, 10006);
            x.setColumn(0, i, 10006);
            for (int digit = 0; digit < 2; digit++) {
                for (int j = 0; j < 8; j++) {
                    x.setEntry(0, digit, i, j, 10006);
                }
            }
        }
        return x;
    }

    @Says(promise = 0, value = MODULO)
    static void valuesOfLargestEntries() {
        RegularSequences x = minusOnes(2);
        long value = 8;
        for (int length = 0; length <= 20; length++) {
            Checks.due("length " + length, x.paddedValue(0, 0L, length), value);
            Checks.due("the highest of length " + length, x.paddedValue(0, (1L << length) - 1, length), value);
            value = value * (10007 - 8) % 10007;
        }
    }

    @Says(promise = 0, value = MODULO)
    static void sumsOfLargestEntries() {
        RegularSequences x = minusOnes(2);
        long sum = 8;
        for (int length = 0; length <= 40; length++) {
            Checks.due("length " + length, x.sumOfLength(0, length), sum);
            sum = sum * 2 * (10007 - 8) % 10007;
        }
    }

    @Says(promise = 0, value = MODULO)
    static void sectionsOfLargestEntries() {
        RegularSequences x = minusOnes(2);
        Checks.due(x.trailingSection(1, 0, 1), 8);
        Checks.due(x.leadingSection(2, 0, 1), 8);
        for (int i = 0; i < 8; i++) {
            Checks.due("8 times -1 times -1", x.column(1, i), 8);
            Checks.due(x.row(1, i), 10006);
            Checks.due("8 times -1 times -1", x.row(2, i), 8);
            Checks.due(x.column(2, i), 10006);
        }
    }

    @Says(promise = 0, value = MODULO)
    static void minimizingLargestEntries() {
        RegularSequences x = minusOnes(2);
        Checks.due("they are all one vector", x.minimize(1, 0), 1);
        Workbenches.dueSlot(x, 1, new int[] {8}, new int[][][] {{{9999}}, {{9999}}}, new int[] {1});
        Checks.due(x.minimalDimension(0), 1);
        Checks.due(x.hankelRank(0, 3), 1);
        Checks.due(x.areEqual(0, 1), 1);
    }

    @Says(promise = 0, value = MODULO)
    static void sumThatIsZeroModulo() {
        RegularSequences x = new RegularSequences();
        x.constant(0, 10006);
        x.constant(1, 1);
        Checks.due(x.add(2, 0, 1), 2);
        Checks.due("10007 is 0", x.value(2, 5L), 0);
        Checks.due(x.firstZero(2), 0);
        Checks.due(x.countZeros(2, 8), 256);
        Checks.due(x.minimize(3, 2), 0);
        x.define(3, 0);
        Checks.due(x.areEqual(2, 3), 1);
    }

    @Says(promise = 0, value = MODULO)
    static void vectorsThatDependModulo() {
        RegularSequences x = new RegularSequences();
        // (2, 1) reaches (1, 5004), which is 5004 times (2, 1) because 10008 is 1.
        int[][] matrix = {{0, 0}, {1, 5004}};
        Workbenches.build(x, 0, new int[] {2, 1}, new int[][][] {matrix, matrix}, new int[] {1, 0});
        Checks.due("half of the value before", x.value(0, 1L), 1);
        Checks.due("half of 1", x.value(0, 3L), 5004);
        Checks.due(x.minimalDimension(0), 1);
        Checks.due(x.hankelRank(0, 3), 1);
        Checks.due(x.minimize(1, 0), 1);
        Workbenches.dueSlot(x, 1, new int[] {2}, new int[][][] {{{5004}}, {{5004}}}, new int[] {1});
        x.setEntry(0, 1, 1, 1, 5003);
        Checks.due("with 5003 they do not depend", x.minimalDimension(0), 2);
    }

    @Says(promise = 0, value = MODULO)
    static void zerosModulo() {
        RegularSequences x = Workbenches.withBase(4);
        x.numbers(0);
        x.constant(1, 9000);
        x.add(2, 0, 1);
        Checks.due("1007 and 9000 are 10007", x.firstZero(2), 1007);
        Checks.due("1007 alone", x.countZeros(2, 6), 1);
        Checks.due("1007 and 11014", x.countZeros(2, 7), 2);
        x.observe(1007L, 0);
        x.observe(1008L, 1);
        x.observe(1006L, 10006);
        x.observe(11014L, 0);
        Checks.due(x.firstMismatch(2), NONE);
    }

    // ---- bases, digits and strings ----

    @Says(promise = 0, value = "The base b is 2, 3 or 4; initially it is 2.")
    static void basesTwoToFour() {
        RegularSequences x = new RegularSequences();
        Checks.due(x.setBase(1), BAD);
        Checks.due(x.setBase(5), BAD);
        Checks.due("initially", x.setBase(4), 2);
        Checks.due(x.setBase(5), BAD);
        Checks.due(x.setBase(3), 4);
        Checks.due(x.setBase(1), BAD);
        Checks.due(x.setBase(2), 3);
    }

    @Says(promise = 0, value = "A digit is an integer from 0 to b - 1.")
    static void digitsOfEachBase() {
        for (int base = 2; base <= 4; base++) {
            RegularSequences x = Workbenches.withBase(base);
            x.numbers(0);
            for (int digit = -1; digit <= base; digit++) {
                boolean valid = digit >= 0 && digit < base;
                Checks.due(x.entry(0, digit, 0, 0), valid ? base : BAD);
                Checks.due(x.setEntry(0, digit, 0, 0, base), valid ? base : BAD);
                Checks.due(x.trailingSection(1, 0, digit), valid ? 2 : BAD);
                Checks.due(x.leadingSection(1, 0, digit), valid ? 2 : BAD);
                Checks.due(x.digitCount(1, digit), valid ? 2 : BAD);
            }
        }
    }

    @Says(promise = 0, value = "the empty string is a digit string.")
    static void emptyStringIsOneString() {
        RegularSequences x = Workbenches.withBase(4);
        x.constant(0, 9);
        Checks.due(x.sumOfLength(0, 0), 9);
        Checks.due(x.countZeros(0, 0), 0);
        x.define(1, 0);
        Checks.due(x.countZeros(1, 0), 1);
        Checks.due(x.firstDifference(0, 1, 0), 0);
        Checks.due("a Hankel matrix of one entry", x.hankelRank(0, 0), 1);
    }

    @Says(promise = 0, value = {
        "The digits of a nonnegative integer n are its base-b digits without leading zeros, "
            + "the most significant digit first",
        "the digit string of 0 is the empty string."})
    static void digitsOfZeroAndOfPowers() {
        for (int base = 2; base <= 4; base++) {
            RegularSequences x = Workbenches.withBase(base);
            x.digitCount(0, 0);
            x.digitCount(1, 1);
            x.numbers(2);
            x.leadingSection(3, 2, 0);
            x.reverse(2, 2);
            Checks.due("0 has no digit 0", x.value(0, 0L), 0);
            Checks.due("as a string of length 1 it has one", x.paddedValue(0, 0L, 1), 1);
            long power = 1;
            for (int zeros = 0; zeros <= 30; zeros++) {
                Checks.due("zeros of " + power, x.value(0, power), zeros);
                Checks.due("ones of " + power, x.value(1, power), 1);
                Checks.due("the most significant digit is first", x.value(2, power), 1);
                power *= base;
            }
        }
    }

    // ---- representations ----

    @Says(promise = 0, value = "A linear representation has a dimension d (0 to 8)")
    static void dimensionsZeroToEight() {
        RegularSequences x = new RegularSequences();
        for (int dimension = -1; dimension <= 9; dimension++) {
            boolean valid = dimension >= 0 && dimension <= 8;
            Checks.due(x.define(0, dimension), valid ? 1 : BAD);
            Checks.due(x.dimension(0), dimension < 0 ? EMPTY : Math.min(dimension, 8));
            Checks.due(x.randomize(1, dimension, 3), valid ? dimension : BAD);
            Checks.due(x.dimension(1), dimension < 0 ? EMPTY : Math.min(dimension, 8));
        }
    }

    @Says(promise = 0, value = "Indices of entries start at 0.")
    static void indicesStartAtZero() {
        RegularSequences x = new RegularSequences();
        x.define(0, 1);
        Checks.due(x.setRow(0, 0, 3), 0);
        Checks.due(x.setColumn(0, 0, 4), 0);
        Checks.due(x.setEntry(0, 0, 0, 0, 5), 0);
        Checks.due(x.row(0, 0), 3);
        Checks.due(x.column(0, 0), 4);
        Checks.due(x.entry(0, 0, 0, 0), 5);
        Checks.due(x.row(0, 1), BAD);
        Checks.due(x.column(0, -1), BAD);
        Checks.due(x.entry(0, 0, 1, 0), BAD);
        Checks.due(x.entry(0, 0, 0, 1), BAD);
    }

    @Says(promise = 0, value = "A representation of dimension 0 has the value 0 on every string.")
    static void dimensionZeroIsZeroEverywhere() {
        RegularSequences x = Workbenches.withBase(4);
        x.define(0, 0);
        x.constant(1, 0);
        x.constant(2, 1);
        Checks.due(x.value(0, 0L), 0);
        Checks.due(x.value(0, Long.MAX_VALUE), 0);
        for (int length = 0; length <= 20; length++) {
            Checks.due(x.paddedValue(0, 0L, length), 0);
        }
        Checks.due(x.sumOfLength(0, 0), 0);
        Checks.due(x.sumOfLength(0, 1000000000), 0);
        Checks.due(x.countZeros(0, 0), 1);
        Checks.due(x.countZeros(0, 8), 65536);
        Checks.due(x.firstZero(0), 0);
        Checks.due(x.minimalDimension(0), 0);
        Checks.due(x.hankelRank(0, 3), 0);
        Checks.due(x.areEqual(0, 1), 1);
        Checks.due(x.firstDifference(0, 2, 0), 0);
        Checks.due(x.ignoresLeadingZeros(0), 1);
        x.observe(7L, 0);
        Checks.due(x.firstMismatch(0), NONE);
    }

    @Says(promise = 0, value = "A representation of dimension 0 has the value 0 on every string.")
    static void operationsOnDimensionZero() {
        RegularSequences x = new RegularSequences();
        x.define(0, 0);
        x.constant(1, 7);
        Checks.due(x.copy(2, 0), 0);
        Checks.due(x.add(2, 0, 0), 0);
        Checks.due(x.subtract(2, 0, 0), 0);
        Checks.due(x.multiply(2, 0, 1), 0);
        Checks.due(x.scale(2, 0, 10006), 0);
        Checks.due(x.trailingSection(2, 0, 1), 0);
        Checks.due(x.leadingSection(2, 0, 1), 0);
        Checks.due(x.reverse(2, 0), 0);
        Checks.due(x.minimize(2, 0), 0);
        Checks.due(x.value(2, 9L), 0);
        Checks.due(x.add(2, 0, 1), 1);
        Checks.due(x.value(2, 9L), 7);
        Checks.due(x.subtract(2, 0, 1), 1);
        Checks.due(x.value(2, 9L), 10000);
    }

    @Says(promise = 0, value = {"There are four slots, 0 to 3.", "Initially all slots are empty."})
    static void fourSlots() {
        RegularSequences x = new RegularSequences();
        for (int slot = -1; slot <= 4; slot++) {
            boolean valid = slot >= 0 && slot <= 3;
            Checks.due("initially", x.dimension(slot), valid ? EMPTY : NO_SLOT);
            Checks.due(x.constant(slot, slot + 20), valid ? 1 : NO_SLOT);
        }
        for (int slot = 0; slot < 4; slot++) {
            Checks.due(x.value(slot, 3L), slot + 20);
        }
    }

    @Says(promise = 0, value = "A slot is empty or holds one representation.")
    static void slotHoldsTheLatest() {
        RegularSequences x = new RegularSequences();
        x.randomize(3, 8, 5);
        x.constant(3, 6);
        Checks.due(x.dimension(3), 1);
        Checks.due(x.row(3, 1), BAD);
        x.define(3, 0);
        Checks.due("dimension 0 is not empty", x.dimension(3), 0);
        Checks.due(x.value(3, 1L), 0);
        Checks.due(x.clear(3), 1);
        Checks.due("empty, not what was there before", x.value(3, 1L), EMPTY);
    }

    @Says(promise = 0, value = "if they have the same value on every digit string, "
            + "including strings with leading zeros.")
    static void equalOnNumbersOnly() {
        RegularSequences x = new RegularSequences();
        // 1 on the strings that do not begin with 0, and 0 on those that do.
        Workbenches.build(x, 0, new int[] {1, 0}, new int[][][] {{{0, 0}, {0, 1}}, {{0, 1}, {0, 1}}}, new int[] {1, 1});
        x.constant(1, 1);
        x.subtract(2, 0, 1);
        Checks.due("alike on the first number", x.value(2, 0L), 0);
        Checks.due("alike on the last number", x.value(2, Long.MAX_VALUE), 0);
        Checks.due(x.areEqual(0, 1), 0);
        Checks.due("the string 0", x.firstDifference(0, 1, 0), 1);
        Checks.due(x.firstDifference(0, 1, 1), 0);
        Checks.due(x.ignoresLeadingZeros(0), 0);
        Checks.due(x.ignoresLeadingZeros(1), 1);
    }

    // ---- the order of strings, reduction ----

    /** Of the value 1 on the strings of that length whose last digit is the one given, and on no others. */
    private static Shape ending(int base, int length, int last) {
        Shape made = new Shape(base, length + 1);
        made.row[0] = 1;
        made.column[length] = 1;
        for (int digit = 0; digit < base; digit++) {
            for (int i = 0; i < length; i++) {
                made.matrices[digit][i][i + 1] = i < length - 1 || digit == last ? 1 : 0;
            }
        }
        return made;
    }

    @Says(promise = 0, value = {"Strings are ordered by length, shorter strings first;",
        "so that the string whose digits form the lower number comes first."})
    static void shorterStringsAndLowerNumbersFirst() {
        for (int base = 2; base <= 4; base++) {
            for (int length = 1; length <= 3; length++) {
                for (int last = 0; last < base; last++) {
                    RegularSequences x = Workbenches.withBase(base);
                    ending(base, length, last).putInto(x, 0);
                    x.define(1, 0);
                    Checks.due(x.firstDifference(0, 1, 0), length);
                    Checks.due("the lowest that ends so", x.firstDifference(0, 1, 1), last);
                }
            }
        }
        RegularSequences x = new RegularSequences();
        ending(2, 1, 1).putInto(x, 0);
        ending(2, 2, 0).putInto(x, 1);
        Checks.due("1 before 00, though 0 is the lower number", x.firstDifference(0, 1, 0), 1);
        Checks.due(x.firstDifference(0, 1, 1), 1);
    }

    @Says(promise = 0, value = "If k is at least 1, its row vector is 1 at index 0 and 0 elsewhere.")
    static void reductionsOfAllSizes() {
        for (int kept = 0; kept <= 8; kept++) {
            // The strings of no, one, .. digits 1 reach one unit vector after the other.
            Shape chain = new Shape(2, 8);
            for (int i = 0; i < 8; i++) {
                chain.row[i] = kept > 0 && i == 8 - kept ? 1 : 0;
                chain.column[i] = i == 7 ? 1 : 0;
                if (i < 7) {
                    chain.matrices[1][i][i + 1] = 1;
                }
            }
            RegularSequences x = new RegularSequences();
            chain.putInto(x, 0);
            Checks.due("kept " + kept, x.minimize(1, 0), kept);
            chain.minimized().dueIn(x, 1);
            Checks.due("kept " + kept, x.column(1, 0), kept == 0 ? BAD : 1);
            Checks.due("kept " + kept, x.column(1, kept - 1), kept == 0 ? BAD : kept == 1 ? 1 : 0);
        }
    }

    @Says(promise = 0, value = {
        "A string is kept if its reached vector is not a linear combination "
            + "of the reached vectors of the strings kept before it.",
        "The minimal dimension of a representation is the dimension of its minimized form."})
    static void noStringIsKept() {
        RegularSequences x = new RegularSequences();
        x.numbers(0);
        x.setRow(0, 1, 0);
        Checks.due("the row vector is 0", x.minimize(1, 0), 0);
        Checks.due(x.minimalDimension(0), 0);
        Checks.due(x.row(1, 0), BAD);
        x.numbers(0);
        x.setColumn(0, 0, 0);
        Checks.due("the column vector is 0", x.minimize(1, 0), 0);
        Checks.due(x.minimalDimension(0), 0);
        Checks.due(x.dimension(1), 0);
        x.define(0, 8);
        x.setRow(0, 7, 10006);
        x.setColumn(0, 7, 10006);
        Checks.due("one string is kept", x.minimize(1, 0), 1);
        Workbenches.dueSlot(x, 1, new int[] {1}, new int[][][] {{{0}}, {{0}}}, new int[] {1});
    }

    // ---- saved states ----

    @Says(promise = 0, value = {"A saved state contains the base and all slots.",
        "The states are kept on a stack with at most 4 states."})
    static void fourStates() {
        RegularSequences x = new RegularSequences();
        for (int count = 1; count <= 5; count++) {
            x.setBase(2 + count % 3);
            x.constant(count % 4, count);
            Checks.due(x.save(), count == 5 ? FULL : count);
        }
        for (int count = 4; count >= 0; count--) {
            Checks.due(x.restore(), count == 0 ? NOTHING : count - 1);
            int state = Math.max(count, 1);
            for (int slot = 0; slot < 4; slot++) {
                Checks.due(x.value(slot, 0L), slot == state % 4 ? state : EMPTY);
            }
            Checks.due(x.entry(state % 4, 1 + state % 3, 0, 0), 1);
            Checks.due(x.entry(state % 4, 2 + state % 3, 0, 0), BAD);
        }
    }

    @Says(promise = 0, value = "Observations, the buffer and the error chain are not part of a saved state.")
    static void savedStatesHoldNothingElse() {
        RegularSequences x = new RegularSequences();
        x.numbers(0);
        x.observe(1L, 1);
        Workbenches.runText(x, "0=m1");
        Workbenches.type(x, "1=");
        x.save();
        for (int n = 2; n <= 8; n++) {
            x.observe(n, n == 8 ? 0 : n);
        }
        x.append('n');
        x.restore();
        Checks.due("8 observations stay", x.observe(9L, 9), FULL);
        Checks.due(x.firstMismatch(0), 7);
        Checks.due("the buffer stays", x.append(';'), 4);
        Checks.due(x.errorDepth(), 2);
        x.save();
        Checks.due(x.run(), SYNTAX);
        Checks.due(x.forgetObservations(), 8);
        x.restore();
        Checks.due("they do not come back", x.forgetObservations(), 0);
        Checks.due(x.append('1'), 1);
        Checks.due(x.errorDepth(), 1);
        Checks.due(x.errorPosition(0), 4);
    }

    // ---- the constants ----

    @Says(promise = 0, value = {"- `NO_SUCH_SLOT = -1`: A slot number is not from 0 to 3.",
        "- `EMPTY_SLOT = -2`: A slot that must hold a representation is empty."})
    static void answersOfSlots() {
        RegularSequences x = new RegularSequences();
        Checks.due(x.dimension(-1), -1);
        Checks.due(x.dimension(4), -1);
        Checks.due(x.dimension(0), -2);
        Checks.due(x.dimension(3), -2);
        Checks.due("a destination may be empty", x.numbers(3), 2);
        Checks.due(x.copy(0, 3), 2);
    }

    @Says(promise = 0, value = {"- `BAD_ARGUMENT = -3`: An argument other than a slot number is not valid.",
        "- `DIMENSION_LIMIT = -4`: The dimension of a result would exceed 8."})
    static void answersOfArguments() {
        RegularSequences x = new RegularSequences();
        Checks.due(x.setBase(5), -3);
        Checks.due(x.define(0, 9), -3);
        Checks.due(x.define(0, 8), 1);
        Checks.due(x.constant(1, 0), 1);
        Checks.due(x.add(2, 0, 1), -4);
        Checks.due(x.multiply(2, 0, 1), 8);
        Checks.due(x.multiply(2, 0, 0), -4);
    }

    @Says(promise = 0, value = {
        "- `BUFFER_FULL = -5`: The buffer, the list of observations or the stack of saved states is full.",
        "- `NOTHING_SAVED = -8`: There is no saved state."})
    static void answersOfWhatIsFull() {
        RegularSequences x = Refused.full();
        Checks.due(x.append('0'), -5);
        Checks.due(x.observe(0L, 0), -5);
        Checks.due(x.save(), -5);
        Checks.due(new RegularSequences().restore(), -8);
    }

    @Says(promise = 0, value = {"- `SYNTAX_ERROR = -6`: The text in the buffer is not a program.",
        "- `PROGRAM_ERROR = -7`: A statement of a program failed.", "- `NONE = -9`: There is no such element."})
    static void answersOfRuns() {
        RegularSequences x = new RegularSequences();
        Checks.due(x.errorCode(0), -9);
        Checks.due(x.run(), -6);
        Checks.due(x.errorCode(0), -6);
        Checks.due(Workbenches.runText(x, "0=0"), -7);
        Checks.due(x.errorCode(0), -7);
        Checks.due(x.errorCode(2), -9);
    }
}
