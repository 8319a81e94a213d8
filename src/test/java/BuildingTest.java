/** Promises 1 to 11: a new object, the base, and the entries of the slots. */
public final class BuildingTest {
    private static final int NO_SLOT = RegularSequences.NO_SUCH_SLOT;
    private static final int EMPTY = RegularSequences.EMPTY_SLOT;
    private static final int BAD = RegularSequences.BAD_ARGUMENT;

    public static void main(String[] args) {
        constants();
        promise1NewObject();
        promise2SetBase();
        promise2SetBaseKeepsTheRest();
        promise3Define();
        promise4Clear();
        promise5SetRow();
        promise6SetColumn();
        promise7SetEntry();
        promise7SetEntryKnowsTheBase();
        promise8Dimension();
        promise9Row();
        promise10Column();
        promise11Entry();
        objectsShareNothing();
        Checks.finish();
    }

    private static void constants() {
        Checks.due(RegularSequences.NO_SUCH_SLOT, -1);
        Checks.due(RegularSequences.EMPTY_SLOT, -2);
        Checks.due(RegularSequences.BAD_ARGUMENT, -3);
        Checks.due(RegularSequences.DIMENSION_LIMIT, -4);
        Checks.due(RegularSequences.BUFFER_FULL, -5);
        Checks.due(RegularSequences.SYNTAX_ERROR, -6);
        Checks.due(RegularSequences.PROGRAM_ERROR, -7);
        Checks.due(RegularSequences.NOTHING_SAVED, -8);
        Checks.due(RegularSequences.NONE, -9);
    }

    private static void promise1NewObject() {
        RegularSequences x = new RegularSequences();
        for (int slot = 0; slot < 4; slot++) {
            Checks.due(x.dimension(slot), EMPTY);
            Checks.due(x.clear(slot), 0);
        }
        Checks.due(x.errorDepth(), 0);
        Checks.due(x.errorCode(0), RegularSequences.NONE);
        Checks.due(x.errorPosition(0), RegularSequences.NONE);
        Checks.due(x.restore(), RegularSequences.NOTHING_SAVED);
        Checks.due(x.forgetObservations(), 0);
        Checks.due(x.append('0'), 1);
        Checks.due(x.setBase(2), 2);
        Checks.due(new RegularSequences().observe(0, 0), 1);
        Checks.due(new RegularSequences().save(), 1);
        Checks.due(new RegularSequences().run(), RegularSequences.SYNTAX_ERROR);
    }

    private static void promise2SetBase() {
        RegularSequences x = new RegularSequences();
        Checks.due(x.setBase(3), 2);
        Checks.due(x.setBase(4), 3);
        Checks.due(x.setBase(2), 4);
        Checks.due(x.setBase(4), 2);
        for (int bad : new int[] {1, 5, 0, -1, 10, Integer.MIN_VALUE, Integer.MAX_VALUE}) {
            Checks.due(x.setBase(bad), BAD);
        }
        Checks.due(x.setBase(4), 4);
        for (int slot = 0; slot < 4; slot++) {
            x.numbers(slot);
        }
        Checks.due(x.setBase(5), BAD);
        for (int slot = 0; slot < 4; slot++) {
            Checks.due(x.dimension(slot), 2);
        }
        Checks.due("also if the base is the same", x.setBase(4), 4);
        for (int slot = 0; slot < 4; slot++) {
            Checks.due(x.dimension(slot), EMPTY);
        }
        x.numbers(0);
        Checks.due(x.value(0, 4L), 4);
        Checks.due(x.entry(0, 3, 1, 0), 3);
        Checks.due(x.entry(0, 0, 0, 0), 4);
        x.setBase(3);
        x.numbers(0);
        Checks.due(x.value(0, 1000L), 1000);
        Checks.due(x.entry(0, 0, 0, 0), 3);
        Checks.due(x.entry(0, 3, 0, 0), BAD);
    }

    private static void promise2SetBaseKeepsTheRest() {
        RegularSequences x = new RegularSequences();
        x.numbers(0);
        x.observe(5, 6);
        x.save();
        Workbenches.runText(x, "0=m3");
        x.append('0');
        x.append('=');
        Checks.due(x.setBase(3), 2);
        Checks.due(x.observe(7, 7), 2);
        x.numbers(1);
        Checks.due(x.firstMismatch(1), 0);
        Checks.due(x.errorDepth(), 2);
        Checks.due(x.append('n'), 3);
        Checks.due(x.run(), 1);
        Checks.due(x.save(), 2);
        x.restore();
        Checks.due(x.restore(), 0);
        Checks.due(x.value(0, 9L), 9);
        Checks.due(x.setBase(2), 2);
    }

    private static void promise3Define() {
        RegularSequences x = Workbenches.withBase(4);
        for (int dimension = 0; dimension <= 8; dimension++) {
            Checks.due(x.randomize(0, dimension, 99), dimension);
            Checks.due(x.define(0, dimension), 1);
            Checks.due(x.dimension(0), dimension);
            for (int i = 0; i < dimension; i++) {
                Checks.due(x.row(0, i), 0);
                Checks.due(x.column(0, i), 0);
                Checks.due(x.entry(0, i % 4, i, dimension - 1 - i), 0);
            }
            Checks.due(x.row(0, dimension), BAD);
        }
        x.randomize(1, 3, 5);
        x.define(1, 3);
        Workbenches.dueSlot(x, 1, new int[3], new int[4][3][3], new int[3]);
        x.define(1, 1);
        x.define(1, 8);
        for (int i = 0; i < 8; i++) {
            Checks.due(x.entry(1, 3, i, i), 0);
        }
        for (int bad : new int[] {-1, 9, 16, Integer.MIN_VALUE, Integer.MAX_VALUE}) {
            Checks.due(x.define(1, bad), BAD);
            Checks.due(x.define(2, bad), BAD);
        }
        Checks.due(x.dimension(1), 8);
        Checks.due(x.dimension(2), EMPTY);
        for (int slot : Workbenches.NO_SLOTS) {
            Checks.due(x.define(slot, 2), NO_SLOT);
            Checks.due("the slot is checked first", x.define(slot, 9), NO_SLOT);
        }
        Checks.due(x.define(3, 4), 1);
        Checks.due(x.dimension(3), 4);
    }

    private static void promise4Clear() {
        RegularSequences x = new RegularSequences();
        for (int slot = 0; slot < 4; slot++) {
            Checks.due(x.clear(slot), 0);
            x.define(slot, slot);
        }
        Checks.due(x.clear(2), 1);
        Checks.due(x.clear(2), 0);
        Checks.due(x.dimension(2), EMPTY);
        Checks.due(x.dimension(1), 1);
        Checks.due(x.dimension(3), 3);
        Checks.due("a dimension of 0 is held too", x.clear(0), 1);
        Checks.due(x.clear(0), 0);
        Checks.due(x.clear(1), 1);
        Checks.due(x.clear(3), 1);
        for (int slot : Workbenches.NO_SLOTS) {
            Checks.due(x.clear(slot), NO_SLOT);
        }
    }

    @Says(promise = 5, value = "Sets one entry of the row vector.")
    private static void promise5SetRow() {
        RegularSequences x = new RegularSequences();
        Checks.due(x.setRow(0, 0, 1), EMPTY);
        Checks.due("the slot is checked before the rest", x.setRow(0, -1, -1), EMPTY);
        x.define(0, 3);
        Checks.due(x.setRow(0, 0, 5), 0);
        Checks.due(x.setRow(0, 2, 10006), 0);
        Checks.due(x.setRow(0, 0, 6), 5);
        Checks.due(x.setRow(0, 2, 0), 10006);
        Checks.due(x.setRow(0, 1, 9), 0);
        Workbenches.dueSlot(x, 0, new int[] {6, 9, 0}, new int[2][3][3], new int[3]);
        for (int bad : new int[] {-1, 3, 8, Integer.MIN_VALUE, Integer.MAX_VALUE}) {
            Checks.due(x.setRow(0, bad, 1), BAD);
        }
        for (int bad : Workbenches.NO_RESIDUES) {
            Checks.due(x.setRow(0, 0, bad), BAD);
        }
        Workbenches.dueSlot(x, 0, new int[] {6, 9, 0}, new int[2][3][3], new int[3]);
        x.define(1, 8);
        Checks.due(x.setRow(1, 7, 3), 0);
        Checks.due(x.setRow(1, 7, 3), 3);
        Checks.due(x.setRow(1, 8, 3), BAD);
        x.define(2, 0);
        Checks.due(x.setRow(2, 0, 0), BAD);
        for (int slot : Workbenches.NO_SLOTS) {
            Checks.due(x.setRow(slot, 0, 1), NO_SLOT);
            Checks.due(x.setRow(slot, -1, -1), NO_SLOT);
        }
    }

    @Says(promise = 6, value = "Sets one entry of the column vector.")
    private static void promise6SetColumn() {
        RegularSequences x = new RegularSequences();
        Checks.due(x.setColumn(3, 0, 1), EMPTY);
        Checks.due(x.setColumn(3, -1, -1), EMPTY);
        x.define(3, 3);
        Checks.due(x.setColumn(3, 0, 5), 0);
        Checks.due(x.setColumn(3, 2, 10006), 0);
        Checks.due(x.setColumn(3, 0, 6), 5);
        Checks.due(x.setColumn(3, 2, 0), 10006);
        Checks.due(x.setColumn(3, 1, 9), 0);
        Workbenches.dueSlot(x, 3, new int[3], new int[2][3][3], new int[] {6, 9, 0});
        for (int bad : new int[] {-1, 3, 8, Integer.MIN_VALUE, Integer.MAX_VALUE}) {
            Checks.due(x.setColumn(3, bad, 1), BAD);
        }
        for (int bad : Workbenches.NO_RESIDUES) {
            Checks.due(x.setColumn(3, 0, bad), BAD);
        }
        Workbenches.dueSlot(x, 3, new int[3], new int[2][3][3], new int[] {6, 9, 0});
        x.define(1, 8);
        Checks.due(x.setColumn(1, 7, 3), 0);
        Checks.due(x.setColumn(1, 7, 3), 3);
        Checks.due(x.setColumn(1, 8, 3), BAD);
        x.define(2, 0);
        Checks.due(x.setColumn(2, 0, 0), BAD);
        for (int slot : Workbenches.NO_SLOTS) {
            Checks.due(x.setColumn(slot, 0, 1), NO_SLOT);
            Checks.due(x.setColumn(slot, -1, -1), NO_SLOT);
        }
    }

    @Says(promise = 7, value = "Sets one entry of the matrix of a digit.")
    private static void promise7SetEntry() {
        RegularSequences x = new RegularSequences();
        Checks.due(x.setEntry(1, 0, 0, 0, 1), EMPTY);
        Checks.due(x.setEntry(1, -1, -1, -1, -1), EMPTY);
        x.define(1, 2);
        int next = 10000;
        for (int digit = 0; digit < 2; digit++) {
            for (int i = 0; i < 2; i++) {
                for (int j = 0; j < 2; j++) {
                    next = next == 10006 ? 77 : next + 1;
                    Checks.due(x.setEntry(1, digit, i, j, next), 0);
                }
            }
        }
        int[][][] matrices = {{{10001, 10002}, {10003, 10004}}, {{10005, 10006}, {77, 78}}};
        Workbenches.dueSlot(x, 1, new int[2], matrices, new int[2]);
        Checks.due(x.setEntry(1, 1, 0, 1, 3), 10006);
        Checks.due(x.setEntry(1, 1, 0, 1, 0), 3);
        matrices[1][0][1] = 0;
        Workbenches.dueSlot(x, 1, new int[2], matrices, new int[2]);
        for (int bad : new int[] {-1, 2, 8, Integer.MIN_VALUE, Integer.MAX_VALUE}) {
            Checks.due(x.setEntry(1, 0, bad, 0, 1), BAD);
            Checks.due(x.setEntry(1, 0, 0, bad, 1), BAD);
            Checks.due(x.setEntry(1, bad, 0, 0, 1), BAD);
        }
        for (int bad : Workbenches.NO_RESIDUES) {
            Checks.due(x.setEntry(1, 0, 0, 0, bad), BAD);
        }
        Workbenches.dueSlot(x, 1, new int[2], matrices, new int[2]);
        x.define(2, 0);
        Checks.due(x.setEntry(2, 0, 0, 0, 0), BAD);
        for (int slot : Workbenches.NO_SLOTS) {
            Checks.due(x.setEntry(slot, 0, 0, 0, 1), NO_SLOT);
            Checks.due(x.setEntry(slot, -1, -1, -1, -1), NO_SLOT);
        }
    }

    private static void promise7SetEntryKnowsTheBase() {
        for (int base = 2; base <= 4; base++) {
            RegularSequences x = Workbenches.withBase(base);
            x.define(0, 8);
            for (int digit = 0; digit < base; digit++) {
                Checks.due(x.setEntry(0, digit, 7, 7, 10 + digit), 0);
                Checks.due(x.setEntry(0, digit, 0, 7, 20 + digit), 0);
                Checks.due(x.setEntry(0, digit, 7, 0, 30 + digit), 0);
            }
            for (int digit = 0; digit < base; digit++) {
                Checks.due(x.setEntry(0, digit, 7, 7, 1), 10 + digit);
                Checks.due(x.setEntry(0, digit, 0, 7, 1), 20 + digit);
                Checks.due(x.setEntry(0, digit, 7, 0, 1), 30 + digit);
            }
            Checks.due(x.setEntry(0, base, 0, 0, 1), BAD);
            Checks.due(x.setEntry(0, 0, 8, 0, 1), BAD);
            Checks.due(x.setEntry(0, 0, 0, 8, 1), BAD);
        }
    }

    @Says(promise = 8, value = "Returns the dimension of a representation.")
    private static void promise8Dimension() {
        RegularSequences x = new RegularSequences();
        for (int slot = 0; slot < 4; slot++) {
            Checks.due(x.dimension(slot), EMPTY);
        }
        for (int dimension = 0; dimension <= 8; dimension++) {
            int slot = dimension % 4;
            x.define(slot, dimension);
            Checks.due(x.dimension(slot), dimension);
        }
        for (int slot : Workbenches.NO_SLOTS) {
            Checks.due(x.dimension(slot), NO_SLOT);
        }
    }

    private static void promise9Row() {
        RegularSequences x = new RegularSequences();
        Checks.due(x.row(2, 0), EMPTY);
        Checks.due(x.row(2, -1), EMPTY);
        Workbenches.buildThree(x, 2);
        Checks.due(x.row(2, 0), 41);
        Checks.due(x.row(2, 1), 43);
        Checks.due(x.row(2, 2), 47);
        for (int bad : new int[] {-1, 3, 8, Integer.MIN_VALUE, Integer.MAX_VALUE}) {
            Checks.due(x.row(2, bad), BAD);
        }
        x.define(2, 0);
        Checks.due(x.row(2, 0), BAD);
        for (int slot : Workbenches.NO_SLOTS) {
            Checks.due(x.row(slot, 0), NO_SLOT);
            Checks.due(x.row(slot, -1), NO_SLOT);
        }
    }

    private static void promise10Column() {
        RegularSequences x = new RegularSequences();
        Checks.due(x.column(2, 0), EMPTY);
        Checks.due(x.column(2, -1), EMPTY);
        Workbenches.buildThree(x, 2);
        Checks.due(x.column(2, 0), 137);
        Checks.due(x.column(2, 1), 139);
        Checks.due(x.column(2, 2), 149);
        for (int bad : new int[] {-1, 3, 8, Integer.MIN_VALUE, Integer.MAX_VALUE}) {
            Checks.due(x.column(2, bad), BAD);
        }
        x.define(2, 0);
        Checks.due(x.column(2, 0), BAD);
        for (int slot : Workbenches.NO_SLOTS) {
            Checks.due(x.column(slot, 0), NO_SLOT);
            Checks.due(x.column(slot, -1), NO_SLOT);
        }
    }

    private static void promise11Entry() {
        RegularSequences x = new RegularSequences();
        Checks.due(x.entry(0, 0, 0, 0), EMPTY);
        Checks.due(x.entry(0, -1, -1, -1), EMPTY);
        Workbenches.buildThree(x, 0);
        Workbenches.dueSlot(x, 0, Workbenches.ROW_THREE, Workbenches.MATRICES_THREE, Workbenches.COLUMN_THREE);
        for (int bad : new int[] {-1, 3, 8, Integer.MIN_VALUE, Integer.MAX_VALUE}) {
            Checks.due(x.entry(0, 0, bad, 0), BAD);
            Checks.due(x.entry(0, 0, 0, bad), BAD);
        }
        for (int bad : new int[] {-1, 2, 3, 4, Integer.MIN_VALUE, Integer.MAX_VALUE}) {
            Checks.due(x.entry(0, bad, 0, 0), BAD);
        }
        x.define(0, 0);
        Checks.due(x.entry(0, 0, 0, 0), BAD);
        for (int slot : Workbenches.NO_SLOTS) {
            Checks.due(x.entry(slot, 0, 0, 0), NO_SLOT);
            Checks.due(x.entry(slot, -1, -1, -1), NO_SLOT);
        }
        x = Workbenches.withBase(4);
        x.define(0, 1);
        Checks.due(x.entry(0, 3, 0, 0), 0);
        Checks.due(x.entry(0, 4, 0, 0), BAD);
    }

    private static void objectsShareNothing() {
        RegularSequences x = new RegularSequences();
        RegularSequences y = new RegularSequences();
        x.setBase(3);
        x.numbers(0);
        x.observe(1, 1);
        x.append('0');
        x.run();
        x.save();
        Checks.due(y.dimension(0), EMPTY);
        Checks.due(y.errorDepth(), 0);
        Checks.due(y.append('0'), 1);
        Checks.due(y.observe(1, 1), 1);
        Checks.due(y.restore(), RegularSequences.NOTHING_SAVED);
        Checks.due(y.setBase(2), 2);
    }
}
