/** Promises 30 to 37: questions about sequences, and observations. */
public final class QuestionsTest {
    private static final int NO_SLOT = RegularSequences.NO_SUCH_SLOT;
    private static final int EMPTY = RegularSequences.EMPTY_SLOT;
    private static final int BAD = RegularSequences.BAD_ARGUMENT;
    private static final int NONE = RegularSequences.NONE;
    private static final int FULL = RegularSequences.BUFFER_FULL;

    public static void main(String[] args) {
        promise30MinimalDimension();
        promise30WrongArguments();
        promise31HankelRank();
        promise31HankelRankGrowsLate();
        promise31WrongArguments();
        promise32AreEqual();
        promise32LeadingZerosCount();
        promise32WrongArguments();
        promise33FirstDifference();
        promise33LateDifferences();
        promise33LatestDifference();
        promise33WrongArguments();
        promise34IgnoresLeadingZeros();
        promise34LateDifference();
        promise34WrongArguments();
        promise35Observe();
        promise36ForgetObservations();
        promise37FirstMismatch();
        promise37WrongArguments();
        Checks.finish();
    }

    private static Shape[] shapes(int base) {
        Shape numbers = Shape.numbers(base);
        Shape count = Shape.digitCount(base, 1);
        return new Shape[] {
            numbers, count, Shape.constant(base, 0), Shape.constant(base, 10006), new Shape(base, 0), new Shape(base, 5),
            Shape.sum(numbers, count), Shape.difference(numbers, numbers), Shape.product(numbers, count),
            Shape.product(numbers, numbers), Shape.product(count, Shape.sum(numbers, numbers)),
            numbers.reversed(), count.trailing(1), numbers.leading(1), chain(base, 4, 0), chain(base, 3, base - 1),
            Shape.random(base, 3, 5), Shape.random(base, 5, 6), Shape.scattered(base, 4, 9, 10006),
            Shape.scattered(base, 5, 10, 1)};
    }

    /** Of the value 1 on one string: that of the digit, so many times that it needs the size. */
    private static Shape chain(int base, int size, int digit) {
        Shape made = new Shape(base, size);
        made.row[0] = 1;
        made.column[size - 1] = 1;
        for (int i = 0; i + 1 < size; i++) {
            made.matrices[digit][i][i + 1] = 1;
        }
        return made;
    }

    private static void promise30MinimalDimension() {
        for (int base = 2; base <= 4; base++) {
            for (Shape shape : shapes(base)) {
                RegularSequences x = Workbenches.withBase(base);
                shape.putInto(x, 2);
                Checks.due(x.minimalDimension(2), shape.minimized().size);
                shape.dueIn(x, 2);
                Checks.due(x.dimension(0), EMPTY);
            }
        }
        RegularSequences x = new RegularSequences();
        for (int size = 0; size <= 8; size++) {
            if (size > 0) {
                chain(2, size, 1).putInto(x, 0);
            } else {
                x.define(0, 0);
            }
            Checks.due(x.minimalDimension(0), size);
        }
        Shape.sum(chain(2, 4, 1), chain(2, 4, 0)).putInto(x, 1);
        Checks.due("the starts and the ends are the same", x.minimalDimension(1), 6);
    }

    private static void promise30WrongArguments() {
        RegularSequences x = new RegularSequences();
        Checks.due(x.minimalDimension(1), EMPTY);
        for (int slot : Workbenches.NO_SLOTS) {
            Checks.due(x.minimalDimension(slot), NO_SLOT);
        }
    }

    @Says(promise = 31, value = "Its rows and its columns are indexed by all digit strings of length at most "
            + "maxLength, and its entry at row u and column v is the value on u followed by v.")
    private static void promise31HankelRank() {
        for (int base = 2; base <= 4; base++) {
            for (Shape shape : shapes(base)) {
                RegularSequences x = Workbenches.withBase(base);
                shape.putInto(x, 1);
                for (int maxLength = 0; maxLength <= 3; maxLength++) {
                    Checks.due(x.hankelRank(1, maxLength), shape.hankelRank(maxLength));
                }
                shape.dueIn(x, 1);
            }
        }
    }

    private static void promise31HankelRankGrowsLate() {
        RegularSequences x = new RegularSequences();
        int[][] ranks = {{1, 1, 1, 1}, {0, 2, 2, 2}, {0, 1, 3, 3}, {0, 0, 2, 4}, {0, 0, 1, 3}, {0, 0, 0, 2},
            {0, 0, 0, 1}, {0, 0, 0, 0}};
        for (int size = 1; size <= 8; size++) {
            chain(2, size, 1).putInto(x, 0);
            for (int maxLength = 0; maxLength <= 3; maxLength++) {
                Checks.due(x.hankelRank(0, maxLength), ranks[size - 1][maxLength]);
            }
        }
        x = Workbenches.withBase(4);
        Shape large = Shape.scattered(4, 8, 3, 10006);
        large.putInto(x, 0);
        Checks.due(x.hankelRank(0, 0), 1);
        Checks.due(x.hankelRank(0, 1), 5);
        Checks.due(x.hankelRank(0, 2), 8);
        Checks.due(x.hankelRank(0, 3), 8);
        x.define(1, 0);
        Checks.due(x.hankelRank(1, 3), 0);
    }

    private static void promise31WrongArguments() {
        RegularSequences x = new RegularSequences();
        Checks.due(x.hankelRank(1, 1), EMPTY);
        Checks.due(x.hankelRank(1, -1), EMPTY);
        x.constant(1, 1);
        for (int bad : new int[] {-1, 4, Integer.MIN_VALUE, Integer.MAX_VALUE}) {
            Checks.due(x.hankelRank(1, bad), BAD);
        }
        for (int slot : Workbenches.NO_SLOTS) {
            Checks.due(x.hankelRank(slot, 1), NO_SLOT);
            Checks.due(x.hankelRank(slot, -1), NO_SLOT);
        }
    }

    private static void promise32AreEqual() {
        for (int base = 2; base <= 4; base++) {
            Shape[] shapes = shapes(base);
            for (Shape a : shapes) {
                for (Shape b : shapes) {
                    long difference = Shape.firstDifference(a, b);
                    if (difference != Shape.UNKNOWN) {
                        RegularSequences x = Workbenches.withBase(base);
                        a.putInto(x, 0);
                        b.putInto(x, 3);
                        Checks.due(x.areEqual(0, 3), difference == Shape.EQUAL ? 1 : 0);
                    }
                }
            }
            for (Shape a : shapes) {
                RegularSequences x = Workbenches.withBase(base);
                a.putInto(x, 0);
                x.minimize(1, 0);
                Checks.due(x.areEqual(0, 0), 1);
                Checks.due(x.areEqual(0, 1), 1);
                Checks.due(x.areEqual(1, 0), 1);
                a.dueIn(x, 0);
            }
        }
    }

    private static void promise32LeadingZerosCount() {
        RegularSequences x = new RegularSequences();
        Workbenches.build(x, 0, new int[] {1, 0}, new int[][][] {{{0, 0}, {0, 1}}, {{0, 1}, {0, 1}}}, new int[] {1, 1});
        x.constant(1, 1);
        for (long n = 0; n < 20; n++) {
            Checks.due(x.value(0, n), 1);
        }
        Checks.due("as numbers they are equal, as sequences not", x.areEqual(0, 1), 0);
        Checks.due(x.firstDifference(0, 1, 0), 1);
        Checks.due(x.firstDifference(0, 1, 1), 0);
        x.define(2, 0);
        x.define(3, 8);
        Checks.due(x.areEqual(2, 3), 1);
        Checks.due(x.areEqual(2, 2), 1);
        x.constant(3, 0);
        Checks.due(x.areEqual(2, 3), 1);
        Checks.due(x.areEqual(1, 2), 0);
        Checks.due(x.areEqual(2, 1), 0);
    }

    private static void promise32WrongArguments() {
        RegularSequences x = new RegularSequences();
        x.constant(0, 1);
        for (int slot : Workbenches.NO_SLOTS) {
            Checks.due(x.areEqual(slot, 0), NO_SLOT);
            Checks.due(x.areEqual(0, slot), NO_SLOT);
            Checks.due(x.areEqual(slot, 1), NO_SLOT);
            Checks.due(x.areEqual(1, slot), NO_SLOT);
        }
        Checks.due(x.areEqual(0, 1), EMPTY);
        Checks.due(x.areEqual(1, 0), EMPTY);
        Checks.due(x.areEqual(2, 2), EMPTY);
    }

    private static void promise33FirstDifference() {
        for (int base = 2; base <= 4; base++) {
            Shape[] shapes = shapes(base);
            for (Shape a : shapes) {
                for (Shape b : shapes) {
                    long difference = Shape.firstDifference(a, b);
                    if (difference == Shape.UNKNOWN) {
                        continue;
                    }
                    RegularSequences x = Workbenches.withBase(base);
                    a.putInto(x, 2);
                    b.putInto(x, 1);
                    Checks.due(x.firstDifference(2, 1, 0), difference == Shape.EQUAL ? NONE : difference >> 32);
                    Checks.due(x.firstDifference(2, 1, 1), difference == Shape.EQUAL ? NONE : (int) difference);
                }
            }
        }
        RegularSequences x = new RegularSequences();
        x.constant(0, 3);
        x.constant(1, 4);
        Checks.due("the empty string", x.firstDifference(0, 1, 0), 0);
        Checks.due(x.firstDifference(0, 1, 1), 0);
    }

    private static void promise33LateDifferences() {
        for (int base = 2; base <= 4; base++) {
            for (int size = 1; size <= 8; size++) {
                RegularSequences x = Workbenches.withBase(base);
                x.define(0, 0);
                chain(base, size, base - 1).putInto(x, 1);
                Checks.due(x.firstDifference(0, 1, 0), size - 1);
                Checks.due(x.firstDifference(1, 0, 1), Math.round(Math.pow(base, size - 1)) - 1);
                Checks.due(x.areEqual(0, 1), 0);
            }
        }
    }

    /** Both are 1 on the string of 7 like digits, and differ next on that of 15. */
    private static void promise33LatestDifference() {
        for (int base = 2; base <= 4; base++) {
            for (int digit = 0; digit < base; digit++) {
                RegularSequences x = Workbenches.withBase(base);
                cycle(base, digit, 1).putInto(x, 0);
                cycle(base, digit, 2).putInto(x, 1);
                long number = digit * (Math.round(Math.pow(base, 15)) - 1) / (base - 1);
                Checks.due(x.firstDifference(0, 1, 0), 15);
                Checks.due(x.firstDifference(0, 1, 1), number);
                Checks.due(x.firstDifference(1, 0, 1), number);
                Checks.due(x.areEqual(1, 0), 0);
                Checks.due(x.firstDifference(1, 1, 0), NONE);
                Checks.due(x.firstDifference(1, 1, 1), NONE);
            }
        }
    }

    private static Shape cycle(int base, int digit, int factor) {
        Shape made = chain(base, 8, digit);
        made.matrices[digit][7][0] = factor;
        return made;
    }

    private static void promise33WrongArguments() {
        RegularSequences x = new RegularSequences();
        x.constant(0, 1);
        x.constant(1, 1);
        for (int bad : new int[] {-1, 2, Integer.MIN_VALUE, Integer.MAX_VALUE}) {
            Checks.due(x.firstDifference(0, 1, bad), BAD);
            Checks.due("an empty slot is seen first", x.firstDifference(0, 2, bad), EMPTY);
            Checks.due(x.firstDifference(3, 0, bad), EMPTY);
            Checks.due(x.firstDifference(4, 0, bad), NO_SLOT);
            Checks.due(x.firstDifference(2, -1, bad), NO_SLOT);
        }
        for (int slot : Workbenches.NO_SLOTS) {
            Checks.due(x.firstDifference(slot, 0, 0), NO_SLOT);
            Checks.due(x.firstDifference(0, slot, 1), NO_SLOT);
            Checks.due(x.firstDifference(slot, 2, 0), NO_SLOT);
            Checks.due(x.firstDifference(2, slot, 0), NO_SLOT);
        }
        Checks.due(x.firstDifference(0, 2, 0), EMPTY);
        Checks.due(x.firstDifference(2, 0, 1), EMPTY);
    }

    @Says(promise = 34, value = "Returns whether leading zeros never change the value: whether the leading section "
            + "by the digit 0 is equal, as a sequence, to the sequence itself.")
    private static void promise34IgnoresLeadingZeros() {
        for (int base = 2; base <= 4; base++) {
            for (Shape shape : shapes(base)) {
                long difference = Shape.firstDifference(shape.leading(0), shape);
                if (difference != Shape.UNKNOWN) {
                    RegularSequences x = Workbenches.withBase(base);
                    shape.putInto(x, 3);
                    Checks.due(x.ignoresLeadingZeros(3), difference == Shape.EQUAL ? 1 : 0);
                    shape.dueIn(x, 3);
                }
            }
        }
        RegularSequences x = new RegularSequences();
        x.numbers(0);
        Checks.due(x.ignoresLeadingZeros(0), 1);
        x.reverse(0, 0);
        Checks.due(x.ignoresLeadingZeros(0), 0);
        x.digitCount(0, 1);
        Checks.due(x.ignoresLeadingZeros(0), 1);
        x.digitCount(0, 0);
        Checks.due(x.ignoresLeadingZeros(0), 0);
        x.define(0, 0);
        Checks.due(x.ignoresLeadingZeros(0), 1);
        x.constant(0, 9);
        Checks.due(x.ignoresLeadingZeros(0), 1);
    }

    private static void promise34LateDifference() {
        for (int base = 2; base <= 4; base++) {
            RegularSequences x = Workbenches.withBase(base);
            Shape late = chain(base, 8, base - 1);
            late.putInto(x, 0);
            Checks.due("0 and seven digits", x.ignoresLeadingZeros(0), 0);
            late.matrices[0][0][0] = 1;
            late.putInto(x, 0);
            Checks.due(x.ignoresLeadingZeros(0), 1);
            late.matrices[0][3][4] = 1;
            late.putInto(x, 0);
            Checks.due("zeros that lead not do not matter", x.ignoresLeadingZeros(0), 1);
        }
    }

    private static void promise34WrongArguments() {
        RegularSequences x = new RegularSequences();
        Checks.due(x.ignoresLeadingZeros(2), EMPTY);
        for (int slot : Workbenches.NO_SLOTS) {
            Checks.due(x.ignoresLeadingZeros(slot), NO_SLOT);
        }
    }

    private static void promise35Observe() {
        RegularSequences x = new RegularSequences();
        for (int bad : Workbenches.NO_RESIDUES) {
            Checks.due(x.observe(0, bad), BAD);
        }
        Checks.due(x.observe(-1, 0), BAD);
        Checks.due(x.observe(Long.MIN_VALUE, 0), BAD);
        Checks.due("none was taken so far", x.forgetObservations(), 0);
        Checks.due(x.observe(0, 0), 1);
        Checks.due(x.observe(0, 10006), 2);
        Checks.due(x.observe(Long.MAX_VALUE, 5), 3);
        Checks.due("the same once more", x.observe(0, 0), 4);
        for (int count = 5; count <= 8; count++) {
            Checks.due(x.observe(count, count), count);
        }
        Checks.due(x.observe(9, 9), FULL);
        Checks.due(x.observe(0, 0), FULL);
        Checks.due("arguments are checked first", x.observe(-1, 9), BAD);
        Checks.due(x.observe(9, 10007), BAD);
        Checks.due(x.forgetObservations(), 8);
        Checks.due(x.observe(9, 9), 1);
    }

    private static void promise36ForgetObservations() {
        RegularSequences x = new RegularSequences();
        Checks.due(x.forgetObservations(), 0);
        x.numbers(0);
        x.observe(3, 4);
        x.observe(5, 5);
        Checks.due(x.firstMismatch(0), 0);
        Checks.due(x.forgetObservations(), 2);
        Checks.due(x.firstMismatch(0), NONE);
        Checks.due(x.forgetObservations(), 0);
        Checks.due(x.observe(3, 3), 1);
        Checks.due(x.firstMismatch(0), NONE);
        Checks.due(x.observe(3, 4), 2);
        Checks.due(x.firstMismatch(0), 1);
    }

    @Says(promise = 35, value = "Adds an observation: the number n is expected to have the value v; earlier ones for "
            + "the same n stay.")
    private static void promise37FirstMismatch() {
        RegularSequences x = new RegularSequences();
        x.numbers(0);
        x.digitCount(1, 1);
        Checks.due(x.firstMismatch(0), NONE);
        x.observe(1, 1);
        x.observe(0, 0);
        x.observe(2, 2);
        x.observe(Long.MAX_VALUE, (int) (Long.MAX_VALUE % 10007));
        Checks.due(x.firstMismatch(0), NONE);
        Checks.due(x.firstMismatch(1), 2);
        x.observe(1, 3);
        Checks.due("an earlier one for the same number stays", x.firstMismatch(0), 4);
        x.constant(2, 1);
        Checks.due(x.firstMismatch(2), 1);
        x.constant(2, 3);
        Checks.due(x.firstMismatch(2), 0);
        x.observe(6, 6);
        x.observe(7, 7);
        x.observe(8, 8);
        x.forgetObservations();
        for (int n = 0; n < 7; n++) {
            x.observe(n, n);
        }
        x.observe(7, 8);
        Checks.due("the last of eight", x.firstMismatch(0), 7);
        x.setBase(3);
        x.numbers(0);
        Checks.due(x.firstMismatch(0), 7);
        x.define(3, 0);
        Checks.due(x.firstMismatch(3), 1);
    }

    private static void promise37WrongArguments() {
        RegularSequences x = new RegularSequences();
        Checks.due(x.firstMismatch(0), EMPTY);
        x.observe(1, 1);
        Checks.due(x.firstMismatch(0), EMPTY);
        for (int slot : Workbenches.NO_SLOTS) {
            Checks.due(x.firstMismatch(slot), NO_SLOT);
        }
    }
}
