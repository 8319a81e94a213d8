/** What several tests do with a workbench. */
final class Workbenches {
    static final int[] NO_SLOTS = {-1, 4, 5, Integer.MIN_VALUE, Integer.MAX_VALUE, -4, 8, 256};
    static final int[] NO_RESIDUES = {-1, 10007, 10008, Integer.MIN_VALUE, Integer.MAX_VALUE};

    private Workbenches() {
    }

    static RegularSequences withBase(int base) {
        RegularSequences x = new RegularSequences();
        x.setBase(base);
        return x;
    }

    /**
     * Fills a slot; matrices is indexed by digit, row and column. What is 0 after define is not set,
     * for an object is good for 512 calls only.
     */
    static void build(RegularSequences x, int slot, int[] row, int[][][] matrices, int[] column) {
        x.define(slot, row.length);
        for (int i = 0; i < row.length; i++) {
            if (row[i] != 0) {
                x.setRow(slot, i, row[i]);
            }
            if (column[i] != 0) {
                x.setColumn(slot, i, column[i]);
            }
            for (int digit = 0; digit < matrices.length; digit++) {
                buildRow(x, slot, digit, i, matrices[digit][i]);
            }
        }
    }

    private static void buildRow(RegularSequences x, int slot, int digit, int i, int[] entries) {
        for (int j = 0; j < entries.length; j++) {
            if (entries[j] != 0) {
                x.setEntry(slot, digit, i, j, entries[j]);
            }
        }
    }

    /** Every entry of the slot, and that there are no more than these. */
    static void dueSlot(RegularSequences x, int slot, int[] row, int[][][] matrices, int[] column) {
        int size = row.length;
        Checks.due("dimension", x.dimension(slot), size);
        for (int i = 0; i < size; i++) {
            Checks.due("row " + i, x.row(slot, i), row[i]);
            Checks.due("column " + i, x.column(slot, i), column[i]);
            for (int digit = 0; digit < matrices.length; digit++) {
                for (int j = 0; j < size; j++) {
                    Checks.due("entry " + digit + ", " + i + ", " + j, x.entry(slot, digit, i, j),
                            matrices[digit][i][j]);
                }
            }
        }
        Checks.due("row behind the last", x.row(slot, size), RegularSequences.BAD_ARGUMENT);
        Checks.due("entry of no digit", x.entry(slot, matrices.length, 0, 0), RegularSequences.BAD_ARGUMENT);
    }

    static void type(RegularSequences x, String text) {
        for (int k = 0; k < text.length(); k++) {
            x.append(text.charAt(k));
        }
    }

    static int runText(RegularSequences x, String text) {
        type(x, text);
        return x.run();
    }

    /** A representation of dimension 2 in base 2 with no entry like another one. */
    static void buildTwo(RegularSequences x, int slot) {
        build(x, slot, ROW_TWO, MATRICES_TWO, COLUMN_TWO);
    }

    /** A representation of dimension 3 in base 2 with no entry like another one. */
    static void buildThree(RegularSequences x, int slot) {
        build(x, slot, ROW_THREE, MATRICES_THREE, COLUMN_THREE);
    }

    static final int[] ROW_TWO = {2, 3};
    static final int[][][] MATRICES_TWO = {{{5, 7}, {11, 13}}, {{17, 19}, {23, 29}}};
    static final int[] COLUMN_TWO = {31, 37};

    static final int[] ROW_THREE = {41, 43, 47};
    static final int[][][] MATRICES_THREE = {
        {{53, 59, 61}, {67, 71, 73}, {79, 83, 89}},
        {{97, 101, 103}, {107, 109, 113}, {127, 131, 10006}}};
    static final int[] COLUMN_THREE = {137, 139, 149};
}
