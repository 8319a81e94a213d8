/** Promises 17 to 29: the operations, entry by entry. */
public final class OperationsTest {
    private static final int NO_SLOT = RegularSequences.NO_SUCH_SLOT;
    private static final int EMPTY = RegularSequences.EMPTY_SLOT;
    private static final int BAD = RegularSequences.BAD_ARGUMENT;
    private static final int LIMIT = RegularSequences.DIMENSION_LIMIT;

    private static final Shape TWO = Shape.of(Workbenches.ROW_TWO, Workbenches.MATRICES_TWO, Workbenches.COLUMN_TWO);
    private static final Shape THREE =
            Shape.of(Workbenches.ROW_THREE, Workbenches.MATRICES_THREE, Workbenches.COLUMN_THREE);

    public static void main(String[] args) {
        promise17Copy();
        promise18Add();
        promise18AddByHand();
        promise19Subtract();
        promise20Multiply();
        promise20MultiplyByHand();
        promises18To20DimensionLimit();
        promises18To20WrongArguments();
        promise21Scale();
        promise22TrailingSection();
        promise23LeadingSection();
        promises22And23Digits();
        promise24Reverse();
        promise25Minimize();
        promise25MinimizeByHand();
        promise25MinimizeOrderOfStrings();
        promises17To25WrongArguments();
        promise26Constant();
        promise27DigitCount();
        promise28Numbers();
        promise29Randomize();
        Checks.finish();
    }

    private interface Unary {
        int apply(RegularSequences x, int dest, int a);
    }

    private interface Binary {
        int apply(RegularSequences x, int dest, int a, int b);
    }

    /** The result in each slot, also over the operand; the other slots stay as they are. */
    private static void dueUnary(Unary operation, Shape operand, Shape want) {
        for (int dest = 0; dest < 4; dest++) {
            want.dueIn(afterUnary(operation, dest, operand, want), dest);
            // The rest in a second object, for one is good for 512 calls only.
            RegularSequences x = afterUnary(operation, dest, operand, want);
            if (dest != 1) {
                operand.dueIn(x, 1);
            }
            if (dest != 3) {
                Shape.numbers(operand.base).dueIn(x, 3);
            }
            for (int slot = 0; slot <= 2; slot += 2) {
                if (slot != dest) {
                    Checks.due(x.dimension(slot), EMPTY);
                }
            }
        }
    }

    private static RegularSequences afterUnary(Unary operation, int dest, Shape operand, Shape want) {
        RegularSequences x = Workbenches.withBase(operand.base);
        operand.putInto(x, 1);
        x.numbers(3);
        Checks.due(operation.apply(x, dest, 1), want.size);
        return x;
    }

    private static void dueBinary(Binary operation, Shape a, Shape b, Shape want) {
        for (int dest = 0; dest < 4; dest++) {
            RegularSequences x = Workbenches.withBase(a.base);
            a.putInto(x, 1);
            b.putInto(x, 2);
            Checks.due(operation.apply(x, dest, 1, 2), want.size);
            want.dueIn(x, dest);
            if (dest != 1) {
                a.dueIn(x, 1);
            }
            if (dest != 2) {
                b.dueIn(x, 2);
            }
            Checks.due(x.dimension(dest == 0 ? 3 : 0), EMPTY);
        }
    }

    private static void dueTwice(Binary operation, Shape a, Shape want) {
        for (int dest = 0; dest < 2; dest++) {
            RegularSequences x = Workbenches.withBase(a.base);
            a.putInto(x, 0);
            Checks.due(operation.apply(x, dest, 0, 0), want.size);
            want.dueIn(x, dest);
        }
    }

    private static void promise17Copy() {
        dueUnary(RegularSequences::copy, TWO, TWO);
        dueUnary(RegularSequences::copy, THREE, THREE);
        dueUnary(RegularSequences::copy, new Shape(2, 0), new Shape(2, 0));
        for (int base = 2; base <= 4; base++) {
            Shape a = Shape.scattered(base, base == 4 ? 5 : 8, 17 + base, 10006);
            dueUnary(RegularSequences::copy, a, a);
        }
        RegularSequences x = new RegularSequences();
        TWO.putInto(x, 0);
        x.copy(1, 0);
        x.setRow(0, 0, 99);
        x.setColumn(0, 0, 98);
        x.setEntry(0, 1, 0, 0, 97);
        TWO.dueIn(x, 1);
        THREE.putInto(x, 2);
        Checks.due("a smaller one over a larger one", x.copy(2, 1), 2);
        TWO.dueIn(x, 2);
    }

    private static void promise18Add() {
        dueBinary(RegularSequences::add, TWO, THREE, Shape.sum(TWO, THREE));
        dueBinary(RegularSequences::add, THREE, TWO, Shape.sum(THREE, TWO));
        dueTwice(RegularSequences::add, TWO, Shape.sum(TWO, TWO));
        dueTwice(RegularSequences::add, THREE, Shape.sum(THREE, THREE));
        Shape none = new Shape(2, 0);
        dueBinary(RegularSequences::add, TWO, none, TWO);
        dueBinary(RegularSequences::add, none, TWO, TWO);
        dueBinary(RegularSequences::add, none, none, none);
        for (int base = 3; base <= 4; base++) {
            Shape a = Shape.scattered(base, 4, 18, 10006);
            Shape b = Shape.scattered(base, 2, 19, 10006);
            dueBinary(RegularSequences::add, a, b, Shape.sum(a, b));
        }
    }

    @Says(promise = 18, value = "The row vector of the result is that of a followed by that of b, its matrices are "
            + "block diagonal with the matrices of a first, and its column vector is that of a "
            + "followed by that of b.")
    private static void promise18AddByHand() {
        RegularSequences x = new RegularSequences();
        TWO.putInto(x, 0);
        x.constant(1, 9);
        Checks.due(x.add(2, 0, 1), 3);
        Workbenches.dueSlot(x, 2, new int[] {2, 3, 9},
                new int[][][] {{{5, 7, 0}, {11, 13, 0}, {0, 0, 1}}, {{17, 19, 0}, {23, 29, 0}, {0, 0, 1}}},
                new int[] {31, 37, 1});
        Checks.due(x.subtract(3, 1, 0), 3);
        Workbenches.dueSlot(x, 3, new int[] {9, 2, 3},
                new int[][][] {{{1, 0, 0}, {0, 5, 7}, {0, 11, 13}}, {{1, 0, 0}, {0, 17, 19}, {0, 23, 29}}},
                new int[] {1, 9976, 9970});
    }

    @Says(promise = 19, value = "The result is built like the sum, but each entry of the column vector of b is "
            + "replaced by its negative modulo 10007.")
    private static void promise19Subtract() {
        dueBinary(RegularSequences::subtract, TWO, THREE, Shape.difference(TWO, THREE));
        dueBinary(RegularSequences::subtract, THREE, TWO, Shape.difference(THREE, TWO));
        dueTwice(RegularSequences::subtract, TWO, Shape.difference(TWO, TWO));
        dueTwice(RegularSequences::subtract, THREE, Shape.difference(THREE, THREE));
        Shape none = new Shape(2, 0);
        dueBinary(RegularSequences::subtract, TWO, none, TWO);
        dueBinary(RegularSequences::subtract, none, none, none);
        Shape negated = Shape.difference(none, TWO);
        dueBinary(RegularSequences::subtract, none, TWO, negated);
        Shape count = Shape.digitCount(2, 1);
        dueBinary(RegularSequences::subtract, count, count, Shape.difference(count, count));
        RegularSequences x = new RegularSequences();
        x.digitCount(0, 1);
        x.subtract(1, 0, 0);
        Checks.due("the negative of 0 is 0", x.column(1, 2), 0);
        Checks.due(x.column(1, 3), 10006);
    }

    private static void promise20Multiply() {
        dueBinary(RegularSequences::multiply, TWO, THREE, Shape.product(TWO, THREE));
        dueBinary(RegularSequences::multiply, THREE, TWO, Shape.product(THREE, TWO));
        dueTwice(RegularSequences::multiply, TWO, Shape.product(TWO, TWO));
        Shape none = new Shape(2, 0);
        dueBinary(RegularSequences::multiply, TWO, none, none);
        dueBinary(RegularSequences::multiply, none, THREE, none);
        dueBinary(RegularSequences::multiply, none, Shape.scattered(2, 8, 1, 10006), none);
        for (int base = 3; base <= 4; base++) {
            Shape a = Shape.scattered(base, 4, 20, 10006);
            Shape b = Shape.scattered(base, 2, 21, 10006);
            dueBinary(RegularSequences::multiply, a, b, Shape.product(a, b));
            dueBinary(RegularSequences::multiply, b, b, Shape.product(b, b));
        }
    }

    @Says(promise = 20, value = "The result has the dimension of a times the dimension of b; index i * (dimension of "
            + "b) + j of the result belongs to index i of a and index j of b, and each entry of "
            + "the result is the product of the two corresponding entries.")
    private static void promise20MultiplyByHand() {
        RegularSequences x = new RegularSequences();
        TWO.putInto(x, 0);
        x.numbers(1);
        x.setRow(1, 0, 10006);
        Checks.due(x.multiply(2, 0, 1), 4);
        Workbenches.dueSlot(x, 2, new int[] {10005, 2, 10004, 3},
                new int[][][] {
                    {{10, 0, 14, 0}, {0, 5, 0, 7}, {22, 0, 26, 0}, {0, 11, 0, 13}},
                    {{34, 0, 38, 0}, {17, 17, 19, 19}, {46, 0, 58, 0}, {23, 23, 29, 29}}},
                new int[] {31, 0, 37, 0});
    }

    private static void promises18To20DimensionLimit() {
        RegularSequences x = new RegularSequences();
        for (int a = 0; a <= 8; a++) {
            for (int b = 0; b <= 8; b++) {
                x.define(0, a);
                x.define(1, b);
                x.clear(2);
                Checks.due(x.add(2, 0, 1), a + b > 8 ? LIMIT : a + b);
                Checks.due(x.dimension(2), a + b > 8 ? EMPTY : a + b);
            }
        }
        x = new RegularSequences();
        for (int a = 0; a <= 8; a++) {
            for (int b = 0; b <= 8; b++) {
                x.define(0, a);
                x.define(1, b);
                Checks.due(x.subtract(2, 0, 1), a + b > 8 ? LIMIT : a + b);
                Checks.due(x.multiply(3, 0, 1), a * b > 8 ? LIMIT : a * b);
            }
        }
        x = new RegularSequences();
        x.define(0, 5);
        THREE.putInto(x, 1);
        Checks.due(x.add(1, 0, 0), LIMIT);
        Checks.due(x.subtract(1, 0, 0), LIMIT);
        Checks.due(x.multiply(1, 0, 1), LIMIT);
        THREE.dueIn(x, 1);
        x.define(0, 8);
        Checks.due(x.add(0, 0, 1), LIMIT);
        Checks.due(x.dimension(0), 8);
    }

    private static void promises18To20WrongArguments() {
        Binary[] operations = {RegularSequences::add, RegularSequences::subtract, RegularSequences::multiply};
        for (Binary operation : operations) {
            RegularSequences x = new RegularSequences();
            TWO.putInto(x, 0);
            THREE.putInto(x, 1);
            for (int slot : Workbenches.NO_SLOTS) {
                Checks.due(operation.apply(x, slot, 0, 0), NO_SLOT);
                Checks.due(operation.apply(x, 0, slot, 0), NO_SLOT);
                Checks.due(operation.apply(x, 0, 0, slot), NO_SLOT);
                Checks.due("slots are checked first", operation.apply(x, slot, 2, 3), NO_SLOT);
                Checks.due(operation.apply(x, 0, slot, 3), NO_SLOT);
                Checks.due(operation.apply(x, 0, 3, slot), NO_SLOT);
            }
            Checks.due(operation.apply(x, 1, 0, 2), EMPTY);
            Checks.due(operation.apply(x, 1, 2, 0), EMPTY);
            Checks.due(operation.apply(x, 1, 2, 3), EMPTY);
            Checks.due(operation.apply(x, 2, 2, 0), EMPTY);
            Checks.due(x.dimension(2), EMPTY);
            THREE.dueIn(x, 1);
            TWO.dueIn(x, 0);
            x.define(3, 8);
            Checks.due("an empty slot is seen before the limit", operation.apply(x, 1, 3, 2), EMPTY);
            Checks.due(operation.apply(x, 1, 3, 3), LIMIT);
        }
    }

    @Says(promise = 21, value = "Stores a multiple of a sequence: each entry of the row vector is multiplied by c.")
    private static void promise21Scale() {
        for (int c : new int[] {0, 1, 2, 5003, 10006}) {
            dueUnary((x, dest, a) -> x.scale(dest, a, c), TWO, TWO.scaled(c));
            dueUnary((x, dest, a) -> x.scale(dest, a, c), THREE, THREE.scaled(c));
        }
        Shape large = Shape.scattered(4, 6, 21, 10006);
        dueUnary((x, dest, a) -> x.scale(dest, a, 7777), large, large.scaled(7777));
        dueUnary((x, dest, a) -> x.scale(dest, a, 7), new Shape(2, 0), new Shape(2, 0));
        Shape largest = Shape.scattered(2, 8, 22, 10006);
        dueUnary((x, dest, a) -> x.scale(dest, a, 9), largest, largest.scaled(9));
        RegularSequences x = new RegularSequences();
        TWO.putInto(x, 0);
        for (int bad : Workbenches.NO_RESIDUES) {
            Checks.due(x.scale(0, 0, bad), BAD);
            Checks.due(x.scale(1, 0, bad), BAD);
        }
        TWO.dueIn(x, 0);
        Checks.due(x.dimension(1), EMPTY);
        Checks.due(x.scale(0, 0, 10006), 2);
        Workbenches.dueSlot(x, 0, new int[] {10005, 10004}, Workbenches.MATRICES_TWO, Workbenches.COLUMN_TWO);
    }

    @Says(promise = 22, value = "The column vector is replaced by the matrix of the digit times the column vector.")
    private static void promise22TrailingSection() {
        RegularSequences x = new RegularSequences();
        TWO.putInto(x, 0);
        Checks.due(x.trailingSection(1, 0, 1), 2);
        Workbenches.dueSlot(x, 1, Workbenches.ROW_TWO, Workbenches.MATRICES_TWO,
                new int[] {17 * 31 + 19 * 37, 23 * 31 + 29 * 37});
        Checks.due(x.trailingSection(1, 0, 0), 2);
        Workbenches.dueSlot(x, 1, Workbenches.ROW_TWO, Workbenches.MATRICES_TWO,
                new int[] {5 * 31 + 7 * 37, 11 * 31 + 13 * 37});
        Checks.due(x.value(1, 3L), x.paddedValue(0, 6L, 3));
        for (int base = 2; base <= 4; base++) {
            Shape a = Shape.scattered(base, 10 - base, base, 10006);
            for (int d = 0; d < base; d++) {
                int digit = d;
                dueUnary((y, dest, b) -> y.trailingSection(dest, b, digit), a, a.trailing(digit));
            }
        }
        dueUnary((y, dest, b) -> y.trailingSection(dest, b, 1), new Shape(2, 0), new Shape(2, 0));
    }

    @Says(promise = 23, value = "The row vector is replaced by the row vector times the matrix of the digit.")
    private static void promise23LeadingSection() {
        RegularSequences x = new RegularSequences();
        TWO.putInto(x, 0);
        Checks.due(x.leadingSection(1, 0, 1), 2);
        Workbenches.dueSlot(x, 1, new int[] {103, 125}, Workbenches.MATRICES_TWO, Workbenches.COLUMN_TWO);
        Checks.due(x.leadingSection(1, 0, 0), 2);
        Workbenches.dueSlot(x, 1, new int[] {43, 53}, Workbenches.MATRICES_TWO, Workbenches.COLUMN_TWO);
        Checks.due(x.paddedValue(1, 3L, 2), x.paddedValue(0, 3L, 3));
        for (int base = 2; base <= 4; base++) {
            Shape a = Shape.scattered(base, 10 - base, base, 10006);
            for (int d = 0; d < base; d++) {
                int digit = d;
                dueUnary((y, dest, b) -> y.leadingSection(dest, b, digit), a, a.leading(digit));
            }
        }
        dueUnary((y, dest, b) -> y.leadingSection(dest, b, 1), new Shape(2, 0), new Shape(2, 0));
    }

    private static void promises22And23Digits() {
        for (int base = 2; base <= 4; base++) {
            RegularSequences x = Workbenches.withBase(base);
            Shape a = Shape.numbers(base);
            a.putInto(x, 0);
            for (int bad : new int[] {-1, base, base + 1, 4, 9, Integer.MIN_VALUE, Integer.MAX_VALUE}) {
                Checks.due(x.trailingSection(0, 0, bad), BAD);
                Checks.due(x.leadingSection(0, 0, bad), BAD);
                Checks.due(x.trailingSection(1, 0, bad), BAD);
                Checks.due(x.leadingSection(1, 0, bad), BAD);
                Checks.due(x.digitCount(1, bad), BAD);
            }
            a.dueIn(x, 0);
            Checks.due(x.dimension(1), EMPTY);
        }
    }

    @Says(promise = 24, value = "The row and column vectors are exchanged and every matrix is transposed.")
    private static void promise24Reverse() {
        RegularSequences x = new RegularSequences();
        TWO.putInto(x, 0);
        Checks.due(x.reverse(0, 0), 2);
        Workbenches.dueSlot(x, 0, new int[] {31, 37},
                new int[][][] {{{5, 11}, {7, 13}}, {{17, 23}, {19, 29}}}, new int[] {2, 3});
        dueUnary(RegularSequences::reverse, THREE, THREE.reversed());
        dueUnary(RegularSequences::reverse, new Shape(2, 0), new Shape(2, 0));
        for (int base = 2; base <= 4; base++) {
            Shape a = Shape.scattered(base, 10 - base, base, 10006);
            dueUnary(RegularSequences::reverse, a, a.reversed());
        }
    }

    @Says(promise = 25, value = "Stores the minimized form of a representation, as described in the section on "
            + "reduction.")
    private static void promise25Minimize() {
        dueUnary(RegularSequences::minimize, TWO, TWO.minimized());
        dueUnary(RegularSequences::minimize, THREE, THREE.minimized());
        dueUnary(RegularSequences::minimize, new Shape(2, 0), new Shape(2, 0));
        dueUnary(RegularSequences::minimize, new Shape(3, 8), new Shape(3, 0));
        for (int base = 2; base <= 4; base++) {
            Shape numbers = Shape.numbers(base);
            Shape count = Shape.digitCount(base, 1);
            Shape[] shapes = {
                numbers, count,
                Shape.sum(numbers, count), Shape.sum(numbers, numbers), Shape.difference(count, count),
                Shape.product(numbers, count), Shape.product(count, count), Shape.product(numbers, numbers),
                Shape.sum(Shape.product(numbers, numbers), Shape.product(numbers, numbers)),
                Shape.difference(Shape.product(numbers, count), Shape.product(count, numbers)),
                Shape.sum(Shape.constant(base, 3), Shape.constant(base, 4)),
                Shape.difference(Shape.constant(base, 3), Shape.constant(base, 3)),
                Shape.constant(base, 0),
                Shape.random(base, 6, 1), Shape.scattered(base, 6, 2, 1), Shape.scattered(base, 6, 3, 10006)};
            for (Shape shape : shapes) {
                dueUnary(RegularSequences::minimize, shape, shape.minimized());
                dueUnary(RegularSequences::minimize, shape.reversed(), shape.reversed().minimized());
            }
        }
    }

    private static void promise25MinimizeByHand() {
        RegularSequences x = new RegularSequences();
        x.numbers(0);
        Checks.due(x.minimize(1, 0), 2);
        // The left reduction keeps the empty string with (0, 1) and the string 1 with (1, 1): its
        // matrices are (1, 0; -1, 2) and (0, 1; -2, 3), its column is (0, 1). The right reduction
        // keeps the empty string with (0, 1) and the string 1 with (1, 3).
        Workbenches.dueSlot(x, 1, new int[] {0, 1},
                new int[][][] {{{2, 2}, {0, 1}}, {{0, 10005}, {1, 3}}}, new int[] {1, 0});
        x.constant(0, 5);
        x.add(0, 0, 0);
        Checks.due(x.minimize(0, 0), 1);
        Workbenches.dueSlot(x, 0, new int[] {10}, new int[][][] {{{1}}, {{1}}}, new int[] {1});
        x.constant(0, 0);
        Checks.due(x.minimize(0, 0), 0);
        Checks.due(x.dimension(0), 0);
    }

    /** Among strings of a length, the lexicographically first ones are kept. */
    private static void promise25MinimizeOrderOfStrings() {
        RegularSequences x = Workbenches.withBase(3);
        int[][][] matrices = new int[3][4][4];
        matrices[1][0][1] = 1;
        matrices[2][0][2] = 1;
        matrices[0][1][3] = 5;
        matrices[1][1][3] = 7;
        matrices[2][1][3] = 11;
        matrices[0][2][3] = 13;
        matrices[1][2][3] = 17;
        matrices[2][2][3] = 19;
        int[] row = {1, 0, 0, 0};
        int[] column = {1, 2, 3, 4};
        Workbenches.build(x, 0, row, matrices, column);
        Shape shape = Shape.of(row, matrices, column);
        Shape left = shape.leftReduced();
        Checks.due("1, 2 and 10 are kept", left.size, 4);
        Checks.due(left.matrices[0][1][3], 1);
        shape.minimized().putInto(x, 1);
        Checks.due(x.minimize(2, 0), shape.minimized().size);
        shape.minimized().dueIn(x, 2);
    }

    private static void promises17To25WrongArguments() {
        Unary[] operations = {
            RegularSequences::copy, RegularSequences::reverse, RegularSequences::minimize,
            (x, dest, a) -> x.scale(dest, a, 3),
            (x, dest, a) -> x.scale(dest, a, -1),
            (x, dest, a) -> x.scale(dest, a, 10007),
            (x, dest, a) -> x.trailingSection(dest, a, 0),
            (x, dest, a) -> x.trailingSection(dest, a, 2),
            (x, dest, a) -> x.leadingSection(dest, a, 0),
            (x, dest, a) -> x.leadingSection(dest, a, -1)};
        for (Unary operation : operations) {
            RegularSequences x = new RegularSequences();
            TWO.putInto(x, 0);
            for (int slot : Workbenches.NO_SLOTS) {
                Checks.due(operation.apply(x, slot, 0), NO_SLOT);
                Checks.due(operation.apply(x, 0, slot), NO_SLOT);
                Checks.due(operation.apply(x, slot, 1), NO_SLOT);
            }
            Checks.due(operation.apply(x, 0, 1), EMPTY);
            Checks.due(operation.apply(x, 2, 2), EMPTY);
            Checks.due(x.dimension(2), EMPTY);
            TWO.dueIn(x, 0);
        }
    }

    @Says(promise = 26, value = "dimension 1, row vector (c), every matrix (1), column vector (1).")
    private static void promise26Constant() {
        for (int base = 2; base <= 4; base++) {
            RegularSequences x = Workbenches.withBase(base);
            for (int c : new int[] {0, 1, 2, 10006}) {
                x.randomize(2, 5, 3);
                Checks.due(x.constant(2, c), 1);
                Shape.constant(base, c).dueIn(x, 2);
                Checks.due(x.value(2, 1000L), c);
                Checks.due(x.column(2, 0), 1);
                Checks.due(x.row(2, 0), c);
            }
            for (int bad : Workbenches.NO_RESIDUES) {
                Checks.due(x.constant(2, bad), BAD);
                Checks.due(x.constant(3, bad), BAD);
            }
            Checks.due(x.value(2, 3L), 10006);
            Checks.due(x.dimension(3), EMPTY);
            for (int slot : Workbenches.NO_SLOTS) {
                Checks.due(x.constant(slot, 1), NO_SLOT);
                Checks.due(x.constant(slot, -1), NO_SLOT);
            }
        }
    }

    @Says(promise = 27, value = "dimension 2, row vector (1, 0), column vector (0, 1); the matrix of the counted "
            + "digit has the rows (1, 1) and (0, 1), and every other matrix is the identity matrix.")
    private static void promise27DigitCount() {
        for (int base = 2; base <= 4; base++) {
            RegularSequences x = Workbenches.withBase(base);
            for (int digit = 0; digit < base; digit++) {
                x.randomize(digit, 7, 3);
                Checks.due(x.digitCount(digit, digit), 2);
                Shape.digitCount(base, digit).dueIn(x, digit);
            }
            Checks.due(x.value(base - 1, base * base * base - 1), 3);
            for (int bad : new int[] {-1, base, 5, Integer.MIN_VALUE, Integer.MAX_VALUE}) {
                Checks.due(x.digitCount(0, bad), BAD);
            }
            Shape.digitCount(base, 0).dueIn(x, 0);
            for (int slot : Workbenches.NO_SLOTS) {
                Checks.due(x.digitCount(slot, 1), NO_SLOT);
                Checks.due(x.digitCount(slot, -1), NO_SLOT);
            }
        }
        RegularSequences x = new RegularSequences();
        x.digitCount(3, 0);
        Workbenches.dueSlot(x, 3, new int[] {1, 0}, new int[][][] {{{1, 1}, {0, 1}}, {{1, 0}, {0, 1}}},
                new int[] {0, 1});
    }

    @Says(promise = 28, value = "dimension 2, row vector (0, 1), column vector (1, 0); the matrix of a digit d has "
            + "the rows (b, 0) and (d, 1).")
    private static void promise28Numbers() {
        for (int base = 2; base <= 4; base++) {
            RegularSequences x = Workbenches.withBase(base);
            for (int slot = 0; slot < 4; slot++) {
                x.randomize(slot, 8, 3);
                Checks.due(x.numbers(slot), 2);
                Shape.numbers(base).dueIn(x, slot);
            }
            for (int slot : Workbenches.NO_SLOTS) {
                Checks.due(x.numbers(slot), NO_SLOT);
            }
        }
        RegularSequences x = Workbenches.withBase(3);
        x.numbers(0);
        Workbenches.dueSlot(x, 0, new int[] {0, 1},
                new int[][][] {{{3, 0}, {0, 1}}, {{3, 0}, {1, 1}}, {{3, 0}, {2, 1}}}, new int[] {1, 0});
    }

    @Says(promise = 29, value = "To draw an entry, the state, an int, is replaced by state * 1103515245 + 12345 with "
            + "int overflow, and the entry is ((state >>> 16) % 3).")
    private static void promise29Randomize() {
        for (int base = 2; base <= 4; base++) {
            for (int dimension = 0; dimension <= 8; dimension++) {
                RegularSequences x = Workbenches.withBase(base);
                for (int seed : new int[] {dimension, -dimension - 1, Integer.MAX_VALUE, Integer.MIN_VALUE}) {
                    if (dimension > 4 && seed != dimension) {
                        continue;
                    }
                    x.numbers(1);
                    Checks.due(x.randomize(1, dimension, seed), dimension);
                    Shape.random(base, dimension, seed).dueIn(x, 1);
                }
            }
        }
        RegularSequences x = new RegularSequences();
        x.randomize(0, 1, 1);
        // 1103515245 + 12345 = 1103527590 = 16838 * 65536 + ...; 16838 = 3 * 5612 + 2.
        Checks.due("the first draw from the seed 1", x.row(0, 0), 2);
        for (int bad : new int[] {-1, 9, Integer.MIN_VALUE, Integer.MAX_VALUE}) {
            Checks.due(x.randomize(0, bad, 1), BAD);
            Checks.due(x.randomize(2, bad, 1), BAD);
        }
        Checks.due(x.dimension(0), 1);
        Checks.due(x.dimension(2), EMPTY);
        for (int slot : Workbenches.NO_SLOTS) {
            Checks.due(x.randomize(slot, 2, 1), NO_SLOT);
            Checks.due(x.randomize(slot, 9, 1), NO_SLOT);
        }
    }
}
