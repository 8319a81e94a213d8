import java.util.function.UnaryOperator;

/** Promises 17 to 25 at their edges: a test for each sentence that names one. */
public final class OperationEdgesTest {
    private static final int NO_SLOT = RegularSequences.NO_SUCH_SLOT;
    private static final int EMPTY = RegularSequences.EMPTY_SLOT;
    private static final int BAD = RegularSequences.BAD_ARGUMENT;
    private static final int LIMIT = RegularSequences.DIMENSION_LIMIT;

    private static final String DEST =
            "- `dest`: the slot that receives the result, 0 to 3; it may be the same as an operand";
    private static final String RESULT = "Returns the dimension of the result";
    private static final String NO_SLOT_OF_TWO = "NO_SUCH_SLOT if dest or a is out of range (checked first)";
    private static final String NO_SLOT_OF_THREE = "NO_SUCH_SLOT if dest, a or b is out of range (checked first)";
    private static final String EMPTY_A = "EMPTY_SLOT if a is empty.";
    private static final String EMPTY_A_SECOND = "EMPTY_SLOT if a is empty (checked second)";
    private static final String EMPTY_A_OR_B = "EMPTY_SLOT if a or b is empty (checked second)";
    private static final String OVER_EIGHT = "DIMENSION_LIMIT if the dimension of the result would exceed 8.";
    private static final String NO_DIGIT = "BAD_ARGUMENT if digit is not a digit of the base.";

    public static void main(String[] args) throws ReflectiveOperationException {
        Sentences.runAll(OperationEdgesTest.class);
    }

    // ---- what operations with one operand share ----

    private interface Unary {
        int apply(RegularSequences x, int dest, int a);
    }

    private interface WithArgument {
        int apply(RegularSequences x, int dest, int a, int argument);
    }

    /** Each destination with each operand; that is also every one with itself. */
    private static void dueInEachSlot(Unary operation, UnaryOperator<Shape> want) {
        for (int dest = 0; dest < 4; dest++) {
            for (int a = 0; a < 4; a++) {
                Shape operand = Shape.scattered(3, 2, 10 * dest + a, 10006);
                RegularSequences x = Workbenches.withBase(3);
                operand.putInto(x, a);
                Checks.due(operation.apply(x, dest, a), want.apply(operand).size);
                want.apply(operand).dueIn(x, dest);
                for (int other = 0; other < 4; other++) {
                    if (other != dest) {
                        Checks.due(x.dimension(other), other == a ? 2 : EMPTY);
                    }
                }
            }
        }
    }

    private static void dueOfSmallestAndLargest(Unary operation, UnaryOperator<Shape> want) {
        for (int size : Edges.ends(0, 8)) {
            for (int dest = 0; dest < 2; dest++) {
                Shape operand = Shape.scattered(2, size, 170, 10006);
                RegularSequences x = new RegularSequences();
                operand.putInto(x, 0);
                Checks.due("dimension " + size, operation.apply(x, dest, 0), want.apply(operand).size);
                want.apply(operand).dueIn(x, dest);
            }
        }
    }

    /** Beside a slot that is none, the other one may be held, empty or none as well. */
    private static void dueOfNoSlot(Unary operation) {
        for (int bad : Edges.NO_SLOTS) {
            for (int other : new int[] {0, 1, 2, 3, bad}) {
                Refused.due("dest " + bad + ", a " + other, x -> operation.apply(x, bad, other), NO_SLOT);
                Refused.due("dest " + other + ", a " + bad, x -> operation.apply(x, other, bad), NO_SLOT);
            }
        }
    }

    private static void dueOfEmptySlot(Unary operation) {
        for (int dest = 0; dest < 4; dest++) {
            int into = dest;
            Refused.due("an empty slot into " + dest, x -> operation.apply(x, into, 2), EMPTY);
            Checks.due("in a new object", operation.apply(new RegularSequences(), dest, 0), EMPTY);
        }
    }

    private static void dueOfNoArgument(WithArgument operation, int[] arguments) {
        for (int bad : arguments) {
            for (int dest = 0; dest < 4; dest++) {
                int into = dest;
                Refused.due("dimension 2, " + bad, x -> operation.apply(x, into, 0, bad), BAD);
                Refused.due("dimension 0, " + bad, x -> operation.apply(x, into, 1, bad), BAD);
            }
        }
    }

    // ---- promise 17 ----

    @Says(promise = 17, value = {DEST, "- `a`: the slot to copy"})
    static void copyInEachSlot() {
        dueInEachSlot(RegularSequences::copy, a -> a);
    }

    @Says(promise = 17, value = RESULT)
    static void copyOfSmallestAndLargest() {
        dueOfSmallestAndLargest(RegularSequences::copy, a -> a);
    }

    @Says(promise = 17, value = NO_SLOT_OF_TWO)
    static void copyOfNoSlot() {
        dueOfNoSlot(RegularSequences::copy);
    }

    @Says(promise = 17, value = EMPTY_A)
    static void copyOfEmptySlot() {
        dueOfEmptySlot(RegularSequences::copy);
    }

    @Says(promise = 17, value = "Stores a copy of a representation.")
    static void copyIsOneOfItsOwn() {
        RegularSequences x = Edges.sized(2, 8);
        Shape want = Shape.random(2, 8, 4711);
        x.copy(1, 0);
        x.setRow(0, 7, 10006);
        x.setColumn(0, 7, 10006);
        x.setEntry(0, 1, 7, 7, 10006);
        want.dueIn(x, 1);
        x.clear(0);
        Checks.due(x.dimension(1), 8);
    }

    // ---- promises 18 to 20 ----

    private interface Binary {
        int apply(RegularSequences x, int dest, int a, int b);
    }

    private interface Combination {
        Shape of(Shape a, Shape b);
    }

    /** Each destination with each pair of operands; that is also all three the same. */
    private static void dueInEachSlot(Binary operation, Combination want) {
        for (int dest = 0; dest < 4; dest++) {
            for (int k = 0; k < 16; k++) {
                int a = k / 4;
                int b = k % 4;
                Shape left = Shape.scattered(2, 2, 100 * dest + k, 10006);
                Shape right = a == b ? left : Shape.scattered(2, 1, 500 * dest + k, 10006);
                RegularSequences x = new RegularSequences();
                left.putInto(x, a);
                right.putInto(x, b);
                Checks.due(operation.apply(x, dest, a, b), want.of(left, right).size);
                want.of(left, right).dueIn(x, dest);
                for (int other = 0; other < 4; other++) {
                    if (other != dest) {
                        Checks.due(x.dimension(other), other == a ? left.size : other == b ? right.size : EMPTY);
                    }
                }
            }
        }
    }

    private static void dueOfNoSlot(Binary operation) {
        for (int bad : Edges.NO_SLOTS) {
            for (int k = 0; k < 16; k++) {
                int first = k / 4;
                int second = k % 4;
                Refused.due("dest " + bad, x -> operation.apply(x, bad, first, second), NO_SLOT);
                Refused.due("a " + bad, x -> operation.apply(x, first, bad, second), NO_SLOT);
                Refused.due("b " + bad, x -> operation.apply(x, first, second, bad), NO_SLOT);
            }
            Refused.due("two of three " + bad, x -> operation.apply(x, bad, bad, 0), NO_SLOT);
            Refused.due("all three " + bad, x -> operation.apply(x, bad, bad, bad), NO_SLOT);
            Refused.dueIn(() -> Edges.sized(2, 8), "dimension 8 twice", x -> operation.apply(x, bad, 0, 0), NO_SLOT);
        }
    }

    private static void dueOfEmptySlot(Binary operation) {
        for (int dest = 0; dest < 4; dest++) {
            int into = dest;
            for (int other = 0; other < 4; other++) {
                int second = other;
                Refused.due("a empty, b " + other, x -> operation.apply(x, into, 2, second), EMPTY);
                Refused.due("b empty, a " + other, x -> operation.apply(x, into, second, 2), EMPTY);
            }
            Refused.dueIn(() -> Edges.sized(2, 8), "a of dimension 8", x -> operation.apply(x, into, 0, 1), EMPTY);
            Refused.dueIn(() -> Edges.sized(2, 8), "b of dimension 8", x -> operation.apply(x, into, 1, 0), EMPTY);
        }
    }

    private static RegularSequences pair(int sizeOfA, int sizeOfB) {
        RegularSequences x = new RegularSequences();
        x.randomize(0, sizeOfA, 18);
        x.randomize(1, sizeOfB, 19);
        x.constant(2, 10006);
        return x;
    }

    /** Every pair of dimensions: into a slot that holds something else, into an empty one, and into the operands. */
    private static void dueOfAllDimensions(Binary operation, Combination want) {
        for (int k = 0; k < 81; k++) {
            int sizeOfA = k / 9;
            int sizeOfB = k % 9;
            Shape result = want.of(Shape.random(2, sizeOfA, 18), Shape.random(2, sizeOfB, 19));
            for (int dest = 0; dest < 4; dest++) {
                int into = dest;
                String what = sizeOfA + " and " + sizeOfB + " into " + dest;
                if (result.size > 8) {
                    Refused.dueIn(() -> pair(sizeOfA, sizeOfB), what, x -> operation.apply(x, into, 0, 1), LIMIT);
                    continue;
                }
                RegularSequences x = pair(sizeOfA, sizeOfB);
                Checks.due(what, operation.apply(x, into, 0, 1), result.size);
                result.dueIn(x, into);
            }
        }
    }

    @Says(promise = 18, value = {DEST, "- `a`: the first operand, a slot", "- `b`: the second operand, a slot"})
    static void addInEachSlot() {
        dueInEachSlot(RegularSequences::add, Shape::sum);
    }

    @Says(promise = 18, value = NO_SLOT_OF_THREE)
    static void addOfNoSlot() {
        dueOfNoSlot(RegularSequences::add);
    }

    @Says(promise = 18, value = EMPTY_A_OR_B)
    static void addOfEmptySlot() {
        dueOfEmptySlot(RegularSequences::add);
    }

    @Says(promise = 18, value = {RESULT, OVER_EIGHT})
    static void addOfAllDimensions() {
        dueOfAllDimensions(RegularSequences::add, Shape::sum);
        Checks.due("exactly 8", pair(4, 4).add(3, 0, 1), 8);
        Checks.due("9", pair(5, 4).add(3, 0, 1), LIMIT);
        Checks.due("16", pair(8, 8).add(3, 0, 1), LIMIT);
        Checks.due("8 and 0", pair(8, 0).add(3, 0, 1), 8);
    }

    @Says(promise = 19, value = {DEST, "- `a`: the first operand, a slot", "- `b`: the second operand, a slot"})
    static void subtractInEachSlot() {
        dueInEachSlot(RegularSequences::subtract, Shape::difference);
    }

    @Says(promise = 19, value = NO_SLOT_OF_THREE)
    static void subtractOfNoSlot() {
        dueOfNoSlot(RegularSequences::subtract);
    }

    @Says(promise = 19, value = EMPTY_A_OR_B)
    static void subtractOfEmptySlot() {
        dueOfEmptySlot(RegularSequences::subtract);
    }

    @Says(promise = 19, value = {RESULT, OVER_EIGHT})
    static void subtractOfAllDimensions() {
        dueOfAllDimensions(RegularSequences::subtract, Shape::difference);
        Checks.due("exactly 8", pair(4, 4).subtract(3, 0, 1), 8);
        Checks.due("9", pair(4, 5).subtract(3, 0, 1), LIMIT);
        Checks.due("0 and 8", pair(0, 8).subtract(3, 0, 1), 8);
    }

    @Says(promise = 19, value = "each entry of the column vector of b is replaced by its negative modulo 10007.")
    static void subtractNegates() {
        int[] entries = {0, 1, 2, 5003, 5004, 10005, 10006};
        int[] negatives = {0, 10006, 10005, 5004, 5003, 2, 1};
        RegularSequences x = new RegularSequences();
        x.define(0, 7);
        x.define(1, 0);
        for (int i = 0; i < 7; i++) {
            x.setColumn(0, i, entries[i]);
            x.setRow(0, i, entries[i]);
            x.setEntry(0, 1, i, i, entries[i]);
        }
        Checks.due(x.subtract(2, 1, 0), 7);
        Checks.due(x.subtract(3, 0, 1), 7);
        for (int i = 0; i < 7; i++) {
            Checks.due("of b", x.column(2, i), negatives[i]);
            Checks.due("of a", x.column(3, i), entries[i]);
            Checks.due("the row vector", x.row(2, i), entries[i]);
            Checks.due("the matrices", x.entry(2, 1, i, i), entries[i]);
        }
    }

    @Says(promise = 20, value = {DEST, "- `a`: the first operand, a slot", "- `b`: the second operand, a slot"})
    static void multiplyInEachSlot() {
        dueInEachSlot(RegularSequences::multiply, Shape::product);
    }

    @Says(promise = 20, value = NO_SLOT_OF_THREE)
    static void multiplyOfNoSlot() {
        dueOfNoSlot(RegularSequences::multiply);
    }

    @Says(promise = 20, value = EMPTY_A_OR_B)
    static void multiplyOfEmptySlot() {
        dueOfEmptySlot(RegularSequences::multiply);
    }

    @Says(promise = 20, value = {RESULT, OVER_EIGHT})
    static void multiplyOfAllDimensions() {
        dueOfAllDimensions(RegularSequences::multiply, Shape::product);
        Checks.due("exactly 8", pair(2, 4).multiply(3, 0, 1), 8);
        Checks.due("exactly 8", pair(8, 1).multiply(3, 0, 1), 8);
        Checks.due("9", pair(3, 3).multiply(3, 0, 1), LIMIT);
        Checks.due("64", pair(8, 8).multiply(3, 0, 1), LIMIT);
        Checks.due("8 and 0", pair(8, 0).multiply(3, 0, 1), 0);
    }

    @Says(promise = 20, value = "each entry of the result is the product of the two corresponding entries.")
    static void multiplyWrapsAround() {
        int[][] products = {{10006, 10006, 1}, {5003, 2, 10006}, {5004, 2, 1}, {0, 10006, 0}, {101, 100, 93}};
        for (int[] product : products) {
            RegularSequences x = new RegularSequences();
            for (int slot = 0; slot < 2; slot++) {
                int v = product[slot];
                Workbenches.build(x, slot, new int[] {v}, new int[][][] {{{v}}, {{v}}}, new int[] {v});
            }
            Checks.due(x.multiply(2, 0, 1), 1);
            Checks.due(x.row(2, 0), product[2]);
            Checks.due(x.column(2, 0), product[2]);
            Checks.due(x.entry(2, 0, 0, 0), product[2]);
            Checks.due(x.entry(2, 1, 0, 0), product[2]);
        }
    }

    // ---- promise 21 ----

    @Says(promise = 21, value = {DEST, "- `a`: the operand, a slot"})
    static void scaleInEachSlot() {
        dueInEachSlot((x, dest, a) -> x.scale(dest, a, 10006), a -> a.scaled(10006));
    }

    @Says(promise = 21, value = RESULT)
    static void scaleOfSmallestAndLargest() {
        dueOfSmallestAndLargest((x, dest, a) -> x.scale(dest, a, 9), a -> a.scaled(9));
    }

    @Says(promise = 21, value = "- `c`: the factor, 0 to 10006")
    static void scaleBySmallestAndLargestFactor() {
        RegularSequences x = new RegularSequences();
        int[] row = {0, 1, 5003, 10006};
        Workbenches.build(x, 0, row, new int[2][4][4], row);
        Checks.due(x.scale(1, 0, 0), 4);
        Workbenches.dueSlot(x, 1, new int[4], new int[2][4][4], row);
        Checks.due(x.scale(1, 0, 1), 4);
        Workbenches.dueSlot(x, 1, row, new int[2][4][4], row);
        Checks.due(x.scale(1, 0, 10006), 4);
        Workbenches.dueSlot(x, 1, new int[] {0, 10006, 5004, 1}, new int[2][4][4], row);
        Checks.due(x.scale(1, 0, 2), 4);
        Workbenches.dueSlot(x, 1, new int[] {0, 2, 10006, 10005}, new int[2][4][4], row);
    }

    @Says(promise = 21, value = "BAD_ARGUMENT if c is out of range.")
    static void scaleByFactorOutOfRange() {
        dueOfNoArgument(RegularSequences::scale, Edges.outside(0, 10006));
    }

    @Says(promise = 21, value = NO_SLOT_OF_TWO)
    static void scaleOfNoSlot() {
        for (int c : new int[] {0, 10006, -1, 10007}) {
            dueOfNoSlot((x, dest, a) -> x.scale(dest, a, c));
        }
    }

    @Says(promise = 21, value = EMPTY_A_SECOND)
    static void scaleOfEmptySlot() {
        for (int c : new int[] {0, 10006, -1, 10007}) {
            dueOfEmptySlot((x, dest, a) -> x.scale(dest, a, c));
        }
    }

    // ---- promises 22 and 23 ----

    /** The digits at both ends of every base; the result is new and, another time, over its operand. */
    private static void dueOfFirstAndLastDigit(WithArgument section, boolean trailing) {
        for (int base = 2; base <= 4; base++) {
            Shape operand = Shape.scattered(base, 3, 220 + base, 10006);
            for (int digit : Edges.ends(0, base - 1)) {
                for (int dest = 0; dest < 2; dest++) {
                    RegularSequences x = Workbenches.withBase(base);
                    operand.putInto(x, 0);
                    Checks.due(section.apply(x, dest, 0, digit), 3);
                    (trailing ? operand.trailing(digit) : operand.leading(digit)).dueIn(x, dest);
                }
            }
        }
    }

    private static void dueOfNoDigit(WithArgument section) {
        dueOfNoArgument(section, Edges.outside(0, 2));
        for (int base = 2; base <= 4; base++) {
            int own = base;
            for (int bad : Edges.outside(0, base - 1)) {
                Refused.dueIn(() -> Edges.sized(own, 3), "digit " + bad + " in base " + base,
                        x -> section.apply(x, 0, 0, bad), BAD);
            }
        }
    }

    private static final int[] DIGITS = {0, 2, -1, 3, Integer.MIN_VALUE, Integer.MAX_VALUE};

    @Says(promise = 22, value = {DEST, "- `a`: the operand, a slot"})
    static void trailingSectionInEachSlot() {
        dueInEachSlot((x, dest, a) -> x.trailingSection(dest, a, 2), a -> a.trailing(2));
    }

    @Says(promise = 22, value = RESULT)
    static void trailingSectionOfSmallestAndLargest() {
        dueOfSmallestAndLargest((x, dest, a) -> x.trailingSection(dest, a, 1), a -> a.trailing(1));
    }

    @Says(promise = 22, value = "- `digit`: the digit")
    static void trailingSectionByFirstAndLastDigit() {
        dueOfFirstAndLastDigit(RegularSequences::trailingSection, true);
    }

    @Says(promise = 22, value = NO_DIGIT)
    static void trailingSectionByNoDigit() {
        dueOfNoDigit(RegularSequences::trailingSection);
    }

    @Says(promise = 22, value = NO_SLOT_OF_TWO)
    static void trailingSectionOfNoSlot() {
        for (int digit : DIGITS) {
            dueOfNoSlot((x, dest, a) -> x.trailingSection(dest, a, digit));
        }
    }

    @Says(promise = 22, value = EMPTY_A_SECOND)
    static void trailingSectionOfEmptySlot() {
        for (int digit : DIGITS) {
            dueOfEmptySlot((x, dest, a) -> x.trailingSection(dest, a, digit));
        }
    }

    @Says(promise = 22, value = "its value on a string w is the value of a on w followed by the given digit.")
    static void trailingSectionOnTheEmptyString() {
        for (int base = 2; base <= 4; base++) {
            RegularSequences x = Workbenches.withBase(base);
            x.numbers(0);
            x.trailingSection(1, 0, base - 1);
            Checks.due(x.value(1, 0L), base - 1);
            Checks.due(x.paddedValue(1, 0L, 0), base - 1);
            Checks.due(x.paddedValue(1, 1L, 20), 2 * base - 1);
        }
    }

    @Says(promise = 23, value = {DEST, "- `a`: the operand, a slot"})
    static void leadingSectionInEachSlot() {
        dueInEachSlot((x, dest, a) -> x.leadingSection(dest, a, 2), a -> a.leading(2));
    }

    @Says(promise = 23, value = RESULT)
    static void leadingSectionOfSmallestAndLargest() {
        dueOfSmallestAndLargest((x, dest, a) -> x.leadingSection(dest, a, 1), a -> a.leading(1));
    }

    @Says(promise = 23, value = "- `digit`: the digit")
    static void leadingSectionByFirstAndLastDigit() {
        dueOfFirstAndLastDigit(RegularSequences::leadingSection, false);
    }

    @Says(promise = 23, value = NO_DIGIT)
    static void leadingSectionByNoDigit() {
        dueOfNoDigit(RegularSequences::leadingSection);
    }

    @Says(promise = 23, value = NO_SLOT_OF_TWO)
    static void leadingSectionOfNoSlot() {
        for (int digit : DIGITS) {
            dueOfNoSlot((x, dest, a) -> x.leadingSection(dest, a, digit));
        }
    }

    @Says(promise = 23, value = EMPTY_A_SECOND)
    static void leadingSectionOfEmptySlot() {
        for (int digit : DIGITS) {
            dueOfEmptySlot((x, dest, a) -> x.leadingSection(dest, a, digit));
        }
    }

    @Says(promise = 23, value = "its value on a string w is the value of a on the given digit followed by w.")
    static void leadingSectionOnTheEmptyString() {
        for (int base = 2; base <= 4; base++) {
            RegularSequences x = Workbenches.withBase(base);
            x.numbers(0);
            x.leadingSection(1, 0, base - 1);
            Checks.due(x.value(1, 0L), base - 1);
            Checks.due(x.paddedValue(1, 0L, 0), base - 1);
            Checks.due(x.paddedValue(1, 1L, 1), base * base - base + 1);
        }
    }

    // ---- promises 24 and 25 ----

    @Says(promise = 24, value = {DEST, "- `a`: the operand, a slot"})
    static void reverseInEachSlot() {
        dueInEachSlot(RegularSequences::reverse, Shape::reversed);
    }

    @Says(promise = 24, value = RESULT)
    static void reverseOfSmallestAndLargest() {
        dueOfSmallestAndLargest(RegularSequences::reverse, Shape::reversed);
    }

    @Says(promise = 24, value = NO_SLOT_OF_TWO)
    static void reverseOfNoSlot() {
        dueOfNoSlot(RegularSequences::reverse);
    }

    @Says(promise = 24, value = EMPTY_A)
    static void reverseOfEmptySlot() {
        dueOfEmptySlot(RegularSequences::reverse);
    }

    @Says(promise = 25, value = {DEST, "- `a`: the operand, a slot"})
    static void minimizeInEachSlot() {
        dueInEachSlot(RegularSequences::minimize, Shape::minimized);
    }

    @Says(promise = 25, value = RESULT)
    static void minimizeOfSmallestAndLargest() {
        dueOfSmallestAndLargest(RegularSequences::minimize, Shape::minimized);
        RegularSequences x = new RegularSequences();
        x.define(0, 8);
        Checks.due("all entries are 0", x.minimize(0, 0), 0);
        Checks.due(x.dimension(0), 0);
        Checks.due("of dimension 0 already", x.minimize(1, 0), 0);
        Checks.due(x.dimension(1), 0);
    }

    @Says(promise = 25, value = RESULT)
    static void minimizeAfterTheLargest() {
        for (int base = 2; base <= 4; base++) {
            RegularSequences x = Edges.sized(base, 8);
            x.numbers(1);
            Checks.due(x.minimize(2, 0), Shape.random(base, 8, 4711).minimized().size);
            Checks.due(x.minimize(2, 1), 2);
            Shape.numbers(base).minimized().dueIn(x, 2);
            x.define(0, 0);
            Checks.due(x.minimize(2, 0), 0);
            Checks.due(x.minimize(2, 1), 2);
            Shape.numbers(base).minimized().dueIn(x, 2);
        }
    }

    @Says(promise = 25, value = NO_SLOT_OF_TWO)
    static void minimizeOfNoSlot() {
        dueOfNoSlot(RegularSequences::minimize);
    }

    @Says(promise = 25, value = EMPTY_A)
    static void minimizeOfEmptySlot() {
        dueOfEmptySlot(RegularSequences::minimize);
    }
}
