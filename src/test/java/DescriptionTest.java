/** Sentences of the description that name no edge: strings, representations, reduction, the calls of an object. */
public final class DescriptionTest {
    private static final int BAD = RegularSequences.BAD_ARGUMENT;

    public static void main(String[] args) throws ReflectiveOperationException {
        Sentences.runAll(DescriptionTest.class);
    }

    // ---- how long an object is used ----

    private static final int CALLS_OF_AN_OBJECT = 512;

    @Says(promise = 0, value = "An object is used for at most 512 calls after it has been made; "
            + "what later calls answer is free.")
    static void dearCallsUpToTheLast() {
        RegularSequences x = new RegularSequences();
        Checks.due(x.setBase(4), 2);
        Checks.due(x.randomize(0, 8, 1), 8);
        Checks.due(x.randomize(1, 8, 2), 8);
        Checks.due(x.add(2, 0, 1), RegularSequences.DIMENSION_LIMIT);
        Shape first = Shape.random(4, 8, 1);
        int zeros = first.zerosOfLength(8);
        int rank = first.hankelRank(3);
        int minimal = first.minimized().size;
        int greatest = first.value(Shape.digits(Long.MAX_VALUE, 4, 0));
        for (int call = 5; call <= CALLS_OF_AN_OBJECT; call++) {
            String what = "call " + call;
            switch (call % 5) {
                case 0:
                    Checks.due(what, x.countZeros(0, 8), zeros);
                    break;
                case 1:
                    Checks.due(what, x.hankelRank(0, 3), rank);
                    break;
                case 2:
                    Checks.due(what, x.value(0, Long.MAX_VALUE), greatest);
                    break;
                case 3:
                    Checks.due(what, x.minimize(3, 0), minimal);
                    break;
                default:
                    Checks.due(what, x.areEqual(0, 1), 0);
                    break;
            }
        }
    }

    @Says(promise = 0, value = "An object is used for at most 512 calls after it has been made")
    static void textsUpToTheLast() {
        RegularSequences x = new RegularSequences();
        String text = "0=n;1=c1;2=0+1;3=2*1;3=m3;2=r3;2=t21;1=l30;0=k5;0=3";
        int callsOfARun = text.length() + 1;
        int runs = CALLS_OF_AN_OBJECT / callsOfARun;
        for (int k = 1; k <= runs; k++) {
            Checks.due("run " + k, Workbenches.runText(x, text), 10);
        }
        for (int call = runs * callsOfARun + 1; call <= CALLS_OF_AN_OBJECT; call++) {
            Checks.due("call " + call, x.value(0, 13L), 48);
        }
    }

    // ---- strings and representations ----

    @Says(promise = 0, value = "A digit string is a finite sequence of digits;")
    static void stringsOfEachLength() {
        for (int base = 2; base <= 4; base++) {
            RegularSequences x = Workbenches.withBase(base);
            x.constant(0, 1);
            x.constant(1, 0);
            long strings = 1;
            for (int length = 0; length <= 12; length++) {
                Checks.due("each once, length " + length, x.sumOfLength(0, length), strings % 10007);
                if (length <= 8) {
                    Checks.due("each once, length " + length, x.countZeros(1, length), strings);
                }
                strings *= base;
            }
        }
    }

    /** In each base one as large as the calls of an object allow to set and to read. */
    @Says(promise = 0, value = "A linear representation has a dimension d (0 to 8), a row vector with d entries, "
            + "one d by d matrix for each digit, and a column vector with d entries.")
    static void entriesOfARepresentation() {
        int[] sizes = {8, 6, 5};
        for (int base = 2; base <= 4; base++) {
            int size = sizes[base - 2];
            Shape shape = new Shape(base, size);
            int next = 1;
            for (int i = 0; i < size; i++) {
                shape.row[i] = next++;
                shape.column[i] = next++;
                for (int digit = 0; digit < base; digit++) {
                    for (int j = 0; j < size; j++) {
                        shape.matrices[digit][i][j] = next++;
                    }
                }
            }
            RegularSequences x = Workbenches.withBase(base);
            shape.putInto(x, 1);
            shape.dueIn(x, 1);
            Checks.due(x.row(1, size), BAD);
            Checks.due(x.column(1, size), BAD);
            Checks.due(x.entry(1, 0, size, 0), BAD);
            Checks.due(x.entry(1, 0, 0, size), BAD);
            Checks.due(x.entry(1, base, 0, 0), BAD);
        }
    }

    @Says(promise = 0, value = "Its value on a digit string is computed as follows: start with the row vector; "
            + "for each digit of the string, from the first to the last, multiply the current row vector "
            + "by the matrix of that digit (row vector times matrix); "
            + "finally take the dot product with the column vector.")
    static void valueOfStringsByHand() {
        RegularSequences x = Workbenches.withBase(3);
        // Each matrix takes a row (p, q) to one that tells the digits and their order.
        int[][] zero = {{1, 1}, {0, 1}};
        int[][] one = {{2, 0}, {0, 3}};
        int[][] two = {{0, 1}, {5, 0}};
        Workbenches.build(x, 0, new int[] {1, 10}, new int[][][] {zero, one, two}, new int[] {1, 100});
        Checks.due("the empty string: (1, 10)", x.paddedValue(0, 0L, 0), 1001);
        Checks.due("0: (1, 11)", x.paddedValue(0, 0L, 1), 1101);
        Checks.due("1: (2, 30)", x.paddedValue(0, 1L, 1), 3002);
        Checks.due("2: (50, 1)", x.paddedValue(0, 2L, 1), 150);
        Checks.due("01: (1, 11), (2, 33)", x.paddedValue(0, 1L, 2), 3302);
        Checks.due("10: (2, 30), (2, 32)", x.paddedValue(0, 3L, 2), 3202);
        Checks.due("12: (2, 30), (150, 2)", x.paddedValue(0, 5L, 2), 350);
        Checks.due("21: (50, 1), (100, 3)", x.paddedValue(0, 7L, 2), 400);
        Checks.due("012: (1, 11), (2, 33), (165, 2)", x.paddedValue(0, 5L, 3), 365);
        Checks.due("210: (50, 1), (100, 3), (100, 103)", x.paddedValue(0, 21L, 3), 10400 - 10007);
        Checks.due("as a number", x.value(0, 21L), 10400 - 10007);
    }

    @Says(promise = 0, value = {"Two representations are equal as sequences if they have the same value "
            + "on every digit string, including strings with leading zeros."})
    static void equalWithUnlikeEntries() {
        RegularSequences x = new RegularSequences();
        x.numbers(0);
        x.copy(1, 0);
        // The second entry of each row vector is doubled, so what comes of it is halved.
        x.setRow(1, 1, 2);
        for (int digit = 0; digit < 2; digit++) {
            x.setEntry(1, digit, 1, 0, digit * 5004);
        }
        Checks.due("twice 5004 is 1", x.areEqual(0, 1), 1);
        Checks.due(x.firstDifference(0, 1, 0), RegularSequences.NONE);
        x.setEntry(1, 1, 1, 0, 5003);
        Checks.due(x.areEqual(0, 1), 0);
        Checks.due("the string 1", x.firstDifference(0, 1, 0), 1);
        Checks.due(x.firstDifference(0, 1, 1), 1);
    }

    @Says(promise = 0, value = "strings of the same length are ordered lexicographically, "
            + "so that the string whose digits form the lower number comes first.")
    static void firstDigitsDecideFirst() {
        RegularSequences x = Workbenches.withBase(4);
        // 1 on 13, 20, 22, 30 and 31 alone.
        int[][][] matrices = new int[4][5][5];
        matrices[1][0][1] = 1;
        matrices[3][1][4] = 1;
        matrices[2][0][2] = 1;
        matrices[0][2][4] = 1;
        matrices[2][2][4] = 1;
        matrices[3][0][3] = 1;
        matrices[0][3][4] = 1;
        matrices[1][3][4] = 1;
        Workbenches.build(x, 0, new int[] {1, 0, 0, 0, 0}, matrices, new int[] {0, 0, 0, 0, 1});
        x.define(1, 0);
        int[][] stages = {{3, 1, 7}, {0, 2, 8}, {2, 2, 10}, {0, 3, 12}, {1, 3, 13}};
        for (int[] stage : stages) {
            Checks.due(x.firstDifference(0, 1, 0), 2);
            Checks.due(x.firstDifference(1, 0, 1), stage[2]);
            x.setEntry(0, stage[0], stage[1], 4, 0);
        }
        Checks.due(x.firstDifference(0, 1, 0), RegularSequences.NONE);
    }

    // ---- reduction ----

    private static final String LEFT = "The left reduction of a representation is computed as follows. "
            + "For each digit string w, in the order of strings, consider the reached vector of w: "
            + "the row vector multiplied by the matrices of the digits of w.";
    private static final String SIZE = "Let r(0), r(1), ... be the reached vectors of the kept strings, in this order, "
            + "and let k be their number. The new representation has dimension k.";
    private static final String LEFT_ENTRIES = "Row i of its matrix for a digit contains the coefficients "
            + "by which r(i) times the old matrix of that digit is written as a linear combination of "
            + "r(0), ..., r(k - 1). "
            + "Entry i of its column vector is the dot product of r(i) with the old column vector.";
    private static final String RIGHT = "The right reduction is computed in the same way on columns. "
            + "The column of w is the matrices of the digits of w multiplied with the column vector, "
            + "where the first digit of w is multiplied first, so that its matrix stands next to the column vector; ";
    private static final String RIGHT_ENTRIES = "with kept columns c(0), c(1), ..., "
            + "the new column vector is 1 at index 0 and 0 elsewhere, column j of the new matrix for a digit "
            + "contains the coefficients of the old matrix times c(j), and entry j of the new row vector "
            + "is the dot product of the old row vector with c(j).";
    private static final String BOTH = "Minimizing a representation is a left reduction "
            + "followed by a right reduction of its result.";

    /**
     * Dimension 3, where (3, 0, 5) reaches only itself. The left reduction has the row (1), the
     * matrices (1) and the column (3); the right one keeps that column.
     */
    @Says(promise = 0, value = {LEFT, SIZE})
    static void leftReductionLeavesOutWhatIsNotReached() {
        RegularSequences x = new RegularSequences();
        int[][] stays = {{1, 0, 0}, {0, 7, 0}, {0, 0, 1}};
        Workbenches.build(x, 0, new int[] {3, 0, 5}, new int[][][] {stays, stays}, new int[] {1, 7, 0});
        Checks.due(x.minimalDimension(0), 1);
        Checks.due(x.minimize(1, 0), 1);
        Workbenches.dueSlot(x, 1, new int[] {3}, new int[][][] {{{1}}, {{1}}}, new int[] {1});
    }

    /**
     * (1, 2) reaches (0, 1) by 0, which reaches (6, 17), 6 times (1, 2) and 5 times (0, 1); by 1 they reach
     * (1, 3) and (0, 2). So the left reduction has the matrices (0, 1; 6, 5) and (1, 1; 0, 2) and the column
     * (1, 1). That one reaches (1, 11) by 0, which reaches (11, 61), 6 times (1, 1) and 5 times (1, 11); by 1
     * they reach (2, 2) and (12, 22), 11 times (1, 1) and (1, 11).
     */
    @Says(promise = 0, value = {LEFT_ENTRIES, RIGHT_ENTRIES, BOTH})
    static void minimizedByHand() {
        RegularSequences x = new RegularSequences();
        int[][] zero = {{9995, 9974}, {6, 17}};
        int[][] one = {{1, 10006}, {0, 2}};
        Workbenches.build(x, 0, new int[] {1, 2}, new int[][][] {zero, one}, new int[] {10006, 1});
        Checks.due(x.minimize(1, 0), 2);
        Workbenches.dueSlot(x, 1, new int[] {1, 1}, new int[][][] {{{0, 6}, {1, 5}}, {{2, 11}, {0, 1}}},
                new int[] {1, 0});
        Checks.due(x.areEqual(0, 1), 1);
    }

    /**
     * The value is 7 on 01, 5 on 10 and 0 on all other strings. Kept by the left reduction are the empty
     * string, 0, 1 and 01; the columns are then (0, 0, 0, 7), by 0 (0, 0, 5, 0), by 1 (0, 7, 0, 0), by 0
     * and then 1 (5, 0, 0, 0) and by 1 and then 0 (7, 0, 0, 0), which is 7 / 5 = 8007 times the one before.
     */
    @Says(promise = 0, value = {RIGHT + RIGHT_ENTRIES, BOTH})
    static void firstDigitStandsNextToTheColumn() {
        RegularSequences x = new RegularSequences();
        int[][] zero = new int[4][4];
        int[][] one = new int[4][4];
        zero[0][1] = 7;
        one[1][3] = 1;
        one[0][2] = 5;
        zero[2][3] = 1;
        Workbenches.build(x, 0, new int[] {1, 0, 0, 0}, new int[][][] {zero, one}, new int[] {0, 0, 0, 1});
        Checks.due(x.paddedValue(0, 1L, 2), 7);
        Checks.due(x.paddedValue(0, 2L, 2), 5);
        Checks.due(x.minimize(1, 0), 4);
        int[][] newZero = {{0, 0, 0, 0}, {1, 0, 0, 0}, {0, 0, 0, 0}, {0, 0, 8007, 0}};
        int[][] newOne = {{0, 0, 0, 0}, {0, 0, 0, 0}, {1, 0, 0, 0}, {0, 1, 0, 0}};
        Workbenches.dueSlot(x, 1, new int[] {0, 0, 0, 5}, new int[][][] {newZero, newOne}, new int[] {1, 0, 0, 0});
        Checks.due(x.areEqual(0, 1), 1);
    }

    @Says(promise = 0, value = BOTH)
    static void minimizedFormStaysWhenMinimizedAgain() {
        for (int base = 2; base <= 4; base++) {
            RegularSequences x = Workbenches.withBase(base);
            Shape shape = Shape.scattered(base, 5, 33 + base, 2);
            shape.putInto(x, 0);
            int size = x.minimize(1, 0);
            Checks.due(x.minimize(2, 1), size);
            shape.minimized().dueIn(x, 2);
            Checks.due(x.areEqual(0, 2), 1);
        }
    }
}
