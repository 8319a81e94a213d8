/** Promises 12 to 16: values, sums and zeros. */
public final class ValuesTest {
    private static final int NO_SLOT = RegularSequences.NO_SUCH_SLOT;
    private static final int EMPTY = RegularSequences.EMPTY_SLOT;
    private static final int BAD = RegularSequences.BAD_ARGUMENT;
    private static final int NONE = RegularSequences.NONE;

    public static void main(String[] args) {
        promise12Value();
        promise12ValueOfLargeNumbers();
        promise12ValueInLargeDimensions();
        promise12WrongArguments();
        promise13PaddedValue();
        promise13PaddedValueAtItsLimits();
        promise13WrongArguments();
        promise14SumOfLength();
        promise14SumOfGreatLengths();
        promise14WrongArguments();
        promise15CountZeros();
        promise15EveryLength();
        promise15WrongArguments();
        promise16FirstZero();
        promise16FirstZeroLooksAtNumbersOnly();
        promise16WrongArguments();
        Checks.finish();
    }

    private static void promise12Value() {
        RegularSequences x = new RegularSequences();
        Workbenches.buildTwo(x, 0);
        Checks.due("the empty string", x.value(0, 0L), 173);
        Checks.due("1", x.value(0, 1L), 7818);
        Checks.due("10", x.value(0, 2L), 5294);
        Checks.due("11", x.value(0, 3L), 9702);
        Workbenches.dueSlot(x, 0, Workbenches.ROW_TWO, Workbenches.MATRICES_TWO, Workbenches.COLUMN_TWO);
        x.define(1, 0);
        Checks.due(x.value(1, 0L), 0);
        Checks.due(x.value(1, 12345L), 0);
    }

    private static void promise12ValueOfLargeNumbers() {
        long[] large = {4095, 4096, 10006, 10007, 10008, 1L << 31, (1L << 32) + 5, 1L << 62,
            Long.MAX_VALUE - 1, Long.MAX_VALUE, 4052555153018976267L};
        for (int base = 2; base <= 4; base++) {
            RegularSequences x = Workbenches.withBase(base);
            x.numbers(0);
            x.digitCount(1, 0);
            x.digitCount(2, base - 1);
            for (long n : large) {
                Checks.due(x.value(0, n), n % 10007);
                Checks.due(x.value(1, n), occurrences(n, base, 0));
                Checks.due(x.value(2, n), occurrences(n, base, base - 1));
            }
        }
    }

    private static int occurrences(long n, int base, int digit) {
        int count = 0;
        for (char sign : Long.toString(n, base).toCharArray()) {
            if (sign - '0' == digit) {
                count++;
            }
        }
        return count;
    }

    private static void promise12ValueInLargeDimensions() {
        RegularSequences x = new RegularSequences();
        x.define(0, 8);
        for (int i = 0; i < 8; i++) {
            x.setRow(0, i, 10006);
            x.setColumn(0, i, 10006);
            for (int j = 0; j < 8; j++) {
                x.setEntry(0, 0, i, j, 10006);
                x.setEntry(0, 1, i, j, 10006);
            }
        }
        Checks.due("8 times -1 times -1", x.value(0, 0L), 8);
        Checks.due("64 times -1", x.value(0, 1L), 10007 - 64);
        Checks.due("512 times 1", x.value(0, 2L), 512);
        Checks.due("4096 times -1", x.value(0, 4L), 10007 - 4096);
        Checks.due("32768 times 1", x.value(0, 8L), 32768 - 3 * 10007);
    }

    private static void promise12WrongArguments() {
        RegularSequences x = new RegularSequences();
        Checks.due(x.value(0, 1L), EMPTY);
        Checks.due(x.value(0, -1L), EMPTY);
        x.numbers(0);
        Checks.due(x.value(0, -1L), BAD);
        Checks.due(x.value(0, Long.MIN_VALUE), BAD);
        for (int slot : Workbenches.NO_SLOTS) {
            Checks.due(x.value(slot, 1L), NO_SLOT);
            Checks.due(x.value(slot, -1L), NO_SLOT);
        }
    }

    private static void promise13PaddedValue() {
        RegularSequences x = new RegularSequences();
        Workbenches.buildTwo(x, 0);
        Checks.due("the empty string", x.paddedValue(0, 0L, 0), 173);
        Checks.due("0", x.paddedValue(0, 0L, 1), 3294);
        Checks.due("1", x.paddedValue(0, 1L, 1), 7818);
        Checks.due("00", x.paddedValue(0, 0L, 2), 1326);
        Checks.due("01", x.paddedValue(0, 1L, 2), 7450);
        Checks.due("10", x.paddedValue(0, 2L, 2), 5294);
        Checks.due("11", x.paddedValue(0, 3L, 2), 9702);
        x.define(1, 0);
        Checks.due(x.paddedValue(1, 3L, 2), 0);
    }

    private static void promise13PaddedValueAtItsLimits() {
        for (int base = 2; base <= 4; base++) {
            RegularSequences x = Workbenches.withBase(base);
            x.numbers(0);
            x.digitCount(1, 0);
            long power = 1;
            for (int length = 0; length <= 20; length++) {
                Checks.due(x.paddedValue(0, power - 1, length), (power - 1) % 10007);
                Checks.due(x.paddedValue(0, power, length), BAD);
                Checks.due(x.paddedValue(1, 0, length), length);
                if (length > 0) {
                    Checks.due(x.paddedValue(1, 1, length), length - 1);
                }
                power *= base;
            }
            Checks.due(x.paddedValue(0, Long.MAX_VALUE, 20), BAD);
        }
    }

    private static void promise13WrongArguments() {
        RegularSequences x = new RegularSequences();
        Checks.due(x.paddedValue(1, 1L, 1), EMPTY);
        Checks.due(x.paddedValue(1, -1L, -1), EMPTY);
        x.constant(1, 3);
        Checks.due(x.paddedValue(1, 0L, 20), 3);
        for (int bad : new int[] {-1, 21, Integer.MIN_VALUE, Integer.MAX_VALUE}) {
            Checks.due(x.paddedValue(1, 0L, bad), BAD);
            Checks.due(x.paddedValue(1, 1L, bad), BAD);
        }
        Checks.due(x.paddedValue(1, -1L, 5), BAD);
        Checks.due(x.paddedValue(1, Long.MIN_VALUE, 5), BAD);
        Checks.due(x.paddedValue(1, 1L, 0), BAD);
        Checks.due(x.paddedValue(1, 4L, 2), BAD);
        for (int slot : Workbenches.NO_SLOTS) {
            Checks.due(x.paddedValue(slot, 1L, 1), NO_SLOT);
            Checks.due(x.paddedValue(slot, -1L, -1), NO_SLOT);
        }
    }

    private static void promise14SumOfLength() {
        RegularSequences x = new RegularSequences();
        Workbenches.buildTwo(x, 0);
        Checks.due(x.sumOfLength(0, 0), 173);
        Checks.due(x.sumOfLength(0, 1), 1105);
        Checks.due(x.sumOfLength(0, 2), 3758);
        x.define(1, 0);
        Checks.due(x.sumOfLength(1, 5), 0);
        for (int base = 2; base <= 4; base++) {
            x = Workbenches.withBase(base);
            x.randomize(0, 8, 31 * base);
            int strings = 1;
            for (int length = 0; length <= 3; length++) {
                long sum = 0;
                for (int n = 0; n < strings; n++) {
                    sum += x.paddedValue(0, n, length);
                }
                Checks.due(x.sumOfLength(0, length), sum % 10007);
                strings *= base;
            }
        }
    }

    private static void promise14SumOfGreatLengths() {
        for (int base = 2; base <= 4; base++) {
            RegularSequences x = Workbenches.withBase(base);
            x.constant(0, 1);
            x.digitCount(1, base - 1);
            for (int length : new int[] {3, 31, 32, 1000, 10006, 123456789, 999999999, 1000000000}) {
                int strings = power(base, length);
                Checks.due(x.sumOfLength(0, length), strings);
                long occurrences = (long) power(base, length - 1) * (length % 10007) % 10007;
                Checks.due(x.sumOfLength(1, length), occurrences);
            }
        }
        RegularSequences x = new RegularSequences();
        x.numbers(0);
        Checks.due(x.sumOfLength(0, 1000000000), 8048);
    }

    private static int power(int base, int exponent) {
        return java.math.BigInteger.valueOf(base)
                .modPow(java.math.BigInteger.valueOf(exponent), java.math.BigInteger.valueOf(10007)).intValue();
    }

    private static void promise14WrongArguments() {
        RegularSequences x = new RegularSequences();
        Checks.due(x.sumOfLength(2, 1), EMPTY);
        Checks.due(x.sumOfLength(2, -1), EMPTY);
        x.constant(2, 1);
        for (int bad : new int[] {-1, 1000000001, Integer.MIN_VALUE, Integer.MAX_VALUE}) {
            Checks.due(x.sumOfLength(2, bad), BAD);
        }
        for (int slot : Workbenches.NO_SLOTS) {
            Checks.due(x.sumOfLength(slot, 1), NO_SLOT);
            Checks.due(x.sumOfLength(slot, -1), NO_SLOT);
        }
    }

    private static void promise15CountZeros() {
        for (int base = 2; base <= 4; base++) {
            RegularSequences x = Workbenches.withBase(base);
            x.constant(0, 0);
            x.constant(1, 7);
            x.define(2, 0);
            x.digitCount(3, base - 1);
            int all = 1;
            int without = 1;
            for (int length = 0; length <= 8; length++) {
                Checks.due(x.countZeros(0, length), all);
                Checks.due(x.countZeros(1, length), 0);
                Checks.due(x.countZeros(2, length), all);
                Checks.due(x.countZeros(3, length), without);
                all *= base;
                without *= base - 1;
            }
        }
        RegularSequences x = Workbenches.withBase(4);
        x.numbers(0);
        Checks.due("the multiples of 10007", x.countZeros(0, 8), 7);
        Checks.due(x.countZeros(0, 7), 2);
        Checks.due(x.countZeros(0, 6), 1);
    }

    private static void promise15EveryLength() {
        for (int base = 2; base <= 4; base++) {
            for (int length = 0; length <= 8; length++) {
                RegularSequences x = Workbenches.withBase(base);
                // The strings without leading zeros have the value 1, the others 0.
                buildNoLeadingZero(x, 1, base);
                Checks.due(x.countZeros(1, length), length == 0 ? 0 : Math.round(Math.pow(base, length - 1)));
                x.reverse(1, 1);
                Checks.due(x.countZeros(1, length), length == 0 ? 0 : Math.round(Math.pow(base, length - 1)));
            }
        }
    }

    private static void buildNoLeadingZero(RegularSequences x, int slot, int base) {
        int[][][] matrices = new int[base][2][2];
        for (int digit = 0; digit < base; digit++) {
            matrices[digit][0][1] = digit == 0 ? 0 : 1;
            matrices[digit][1][1] = 1;
        }
        Workbenches.build(x, slot, new int[] {1, 0}, matrices, new int[] {1, 1});
    }

    private static void promise15WrongArguments() {
        RegularSequences x = new RegularSequences();
        Checks.due(x.countZeros(3, 1), EMPTY);
        Checks.due(x.countZeros(3, -1), EMPTY);
        x.constant(3, 0);
        for (int bad : new int[] {-1, 9, Integer.MIN_VALUE, Integer.MAX_VALUE}) {
            Checks.due(x.countZeros(3, bad), BAD);
        }
        for (int slot : Workbenches.NO_SLOTS) {
            Checks.due(x.countZeros(slot, 1), NO_SLOT);
            Checks.due(x.countZeros(slot, -1), NO_SLOT);
        }
    }

    private static void promise16FirstZero() {
        for (int base = 2; base <= 4; base++) {
            RegularSequences x = Workbenches.withBase(base);
            x.numbers(0);
            for (int place : new int[] {0, 1, 2, 3, 15, 16, 17, 26, 27, 80, 81, 255, 256, 257, 1000, 2047, 2048, 4094, 4095}) {
                x.constant(1, place);
                x.subtract(2, 0, 1);
                Checks.due(x.firstZero(2), place);
            }
            x.constant(1, 4096);
            x.subtract(2, 0, 1);
            Checks.due(x.firstZero(2), NONE);
            x.constant(1, 1);
            Checks.due(x.firstZero(1), NONE);
            x.constant(1, 300);
            x.subtract(1, 0, 1);
            x.minimize(1, 1);
            x.constant(2, 200);
            x.subtract(2, 0, 2);
            x.minimize(2, 2);
            x.multiply(1, 1, 2);
            Checks.due("the lower one of two", x.firstZero(1), 200);
        }
        RegularSequences x = new RegularSequences();
        x.define(3, 0);
        Checks.due(x.firstZero(3), 0);
    }

    private static void promise16FirstZeroLooksAtNumbersOnly() {
        for (int base = 2; base <= 4; base++) {
            RegularSequences x = Workbenches.withBase(base);
            buildNoLeadingZero(x, 0, base);
            Checks.due(x.firstZero(0), NONE);
            x.digitCount(0, 0);
            x.scale(0, 0, 10006);
            x.constant(1, 3);
            x.add(0, 0, 1);
            Checks.due("three zeros", x.firstZero(0), base * base * base);
        }
    }

    private static void promise16WrongArguments() {
        RegularSequences x = new RegularSequences();
        Checks.due(x.firstZero(1), EMPTY);
        for (int slot : Workbenches.NO_SLOTS) {
            Checks.due(x.firstZero(slot), NO_SLOT);
        }
    }
}
