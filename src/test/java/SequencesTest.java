/**
 * The results of promises 17 to 29 as sequences: what they are worth on every short string, told from
 * what the operands are worth on it, whatever the entries may be.
 */
public final class SequencesTest {
    private static final int P = 10007;

    public static void main(String[] args) throws ReflectiveOperationException {
        Sentences.runAll(SequencesTest.class);
    }

    private interface Operation {
        int apply(RegularSequences x);
    }

    /** What the result in slot 2 is worth on the string of that length that forms the number. */
    private interface Rule {
        long value(RegularSequences x, int base, long number, int length);
    }

    /** Slot 0 holds one of dimension 4, slot 1 one of dimension 2, both with entries of no pattern. */
    private static void dueAsSequence(Operation operation, int dimension, Rule rule) {
        for (int base = 2; base <= 4; base++) {
            RegularSequences x = Workbenches.withBase(base);
            Shape.scattered(base, 4, 70 + base, 10006).putInto(x, 0);
            Shape.scattered(base, 2, 80 + base, 10006).putInto(x, 1);
            Checks.due(operation.apply(x), dimension);
            long strings = 1;
            for (int length = 0; length <= 3; length++) {
                for (long n = 0; n < strings; n++) {
                    Checks.due("base " + base + ", length " + length + ", number " + n, x.paddedValue(2, n, length),
                            rule.value(x, base, n, length));
                }
                strings *= base;
            }
        }
    }

    private static long power(int base, int exponent) {
        long power = 1;
        for (int k = 0; k < exponent; k++) {
            power *= base;
        }
        return power;
    }

    @Says(promise = 17, value = "Stores a copy of a representation.")
    static void copyIsWorthTheSame() {
        dueAsSequence(x -> x.copy(2, 0), 4, (x, base, n, length) -> x.paddedValue(0, n, length));
    }

    @Says(promise = 18, value = "Stores the sum of two sequences.")
    static void sumIsWorthTheSum() {
        dueAsSequence(x -> x.add(2, 0, 1), 6,
                (x, base, n, length) -> (x.paddedValue(0, n, length) + x.paddedValue(1, n, length)) % P);
    }

    @Says(promise = 19, value = "Stores the difference a minus b.")
    static void differenceIsWorthTheDifference() {
        dueAsSequence(x -> x.subtract(2, 0, 1), 6,
                (x, base, n, length) -> (P + x.paddedValue(0, n, length) - x.paddedValue(1, n, length)) % P);
        dueAsSequence(x -> x.subtract(2, 1, 0), 6,
                (x, base, n, length) -> (P + x.paddedValue(1, n, length) - x.paddedValue(0, n, length)) % P);
    }

    @Says(promise = 20, value = "Stores the product of two sequences, taken string by string.")
    static void productIsWorthTheProduct() {
        dueAsSequence(x -> x.multiply(2, 0, 1), 8,
                (x, base, n, length) -> x.paddedValue(0, n, length) * x.paddedValue(1, n, length) % P);
    }

    @Says(promise = 21, value = "Stores a multiple of a sequence")
    static void multipleIsWorthTheMultiple() {
        dueAsSequence(x -> x.scale(2, 0, 7001), 4, (x, base, n, length) -> x.paddedValue(0, n, length) * 7001 % P);
    }

    @Says(promise = 22, value = "Stores the trailing section of a sequence: "
            + "its value on a string w is the value of a on w followed by the given digit.")
    static void trailingSectionIsWorthWhatFollows() {
        for (int digit = 0; digit < 2; digit++) {
            int last = digit;
            dueAsSequence(x -> x.trailingSection(2, 0, last), 4,
                    (x, base, n, length) -> x.paddedValue(0, n * base + last, length + 1));
        }
    }

    @Says(promise = 23, value = "Stores the leading section of a sequence: "
            + "its value on a string w is the value of a on the given digit followed by w.")
    static void leadingSectionIsWorthWhatComesBefore() {
        for (int digit = 0; digit < 2; digit++) {
            int first = digit;
            dueAsSequence(x -> x.leadingSection(2, 0, first), 4,
                    (x, base, n, length) -> x.paddedValue(0, first * power(base, length) + n, length + 1));
        }
    }

    private static long reversed(int base, long number, int length) {
        long reversed = 0;
        long rest = number;
        for (int k = 0; k < length; k++) {
            reversed = reversed * base + rest % base;
            rest /= base;
        }
        return reversed;
    }

    @Says(promise = 24, value = "Stores the reversal of a sequence: "
            + "its value on a string is the value of a on the reversed string.")
    static void reversalIsWorthTheReversedString() {
        dueAsSequence(x -> x.reverse(2, 0), 4,
                (x, base, n, length) -> x.paddedValue(0, reversed(base, n, length), length));
    }

    @Says(promise = 25, value = "Stores the minimized form of a representation")
    static void minimizedFormIsWorthTheSame() {
        dueAsSequence(x -> x.minimize(2, 0), 4, (x, base, n, length) -> x.paddedValue(0, n, length));
        dueAsSequence(x -> {
            x.add(2, 1, 1);
            return x.minimize(2, 2);
        }, 2, (x, base, n, length) -> x.paddedValue(1, n, length) * 2 % P);
    }

    @Says(promise = 26, value = "Stores the sequence with the same value on every string")
    static void constantIsWorthTheSameEverywhere() {
        dueAsSequence(x -> x.constant(2, 8765), 1, (x, base, n, length) -> 8765);
    }

    private static int occurrences(int base, long number, int length, int digit) {
        int count = 0;
        for (int sign : Shape.digits(number, base, length)) {
            count += sign == digit ? 1 : 0;
        }
        return count;
    }

    @Says(promise = 27, value = "Stores the sequence that counts how often a digit occurs in the string")
    static void digitCountIsWorthTheCount() {
        for (int digit = 0; digit < 2; digit++) {
            int counted = digit;
            dueAsSequence(x -> x.digitCount(2, counted), 2,
                    (x, base, n, length) -> occurrences(base, n, length, counted));
        }
    }

    @Says(promise = 28, value = "Stores the sequence whose value is the number that the string denotes, modulo 10007")
    static void numbersAreWorthTheNumber() {
        dueAsSequence(x -> x.numbers(2), 2, (x, base, n, length) -> n);
    }

    @Says(promise = 29, value = "Stores a representation with pseudorandom entries.")
    static void pseudorandomEntriesAreSmallAndDiffer() {
        for (int base = 2; base <= 4; base++) {
            Shape want = Shape.random(base, 5, 20261118);
            RegularSequences x = Workbenches.withBase(base);
            x.randomize(3, 5, 20261118);
            int[] seen = new int[3];
            for (int i = 0; i < 5; i++) {
                for (int j = 0; j < 5; j++) {
                    int entry = x.entry(3, base - 1, i, j);
                    Checks.due("entry " + i + ", " + j, entry, want.matrices[base - 1][i][j]);
                    seen[Math.floorMod(entry, 3)]++;
                }
            }
            Checks.due("0, 1 and 2 all occur", seen[0] > 0 && seen[1] > 0 && seen[2] > 0 ? 1 : 0, 1);
        }
    }
}
