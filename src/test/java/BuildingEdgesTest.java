/** Promises 1 to 7 at their edges: a test for each sentence that names one. */
public final class BuildingEdgesTest {
    private static final int NO_SLOT = RegularSequences.NO_SUCH_SLOT;
    private static final int EMPTY = RegularSequences.EMPTY_SLOT;
    private static final int BAD = RegularSequences.BAD_ARGUMENT;
    private static final int NONE = RegularSequences.NONE;

    private static final String NEW_OBJECT = "Creates a workbench with base 2, empty slots, no observations, "
            + "an empty buffer and no saved states.";
    private static final String NO_SLOT_FIRST = "NO_SUCH_SLOT if the slot is out of range (checked first)";
    private static final String EMPTY_SECOND = "EMPTY_SLOT if the slot is empty (checked second)";

    public static void main(String[] args) throws ReflectiveOperationException {
        Sentences.runAll(BuildingEdgesTest.class);
    }

    // ---- promise 1 ----

    @Says(promise = 1, value = NEW_OBJECT)
    static void newObjectHasBaseTwo() {
        Checks.due(new RegularSequences().setBase(4), 2);
        RegularSequences x = new RegularSequences();
        Checks.due(x.digitCount(0, 1), 2);
        Checks.due(x.digitCount(0, 2), BAD);
        Checks.due(x.entry(0, 1, 0, 1), 1);
        Checks.due(x.entry(0, 2, 0, 0), BAD);
    }

    @Says(promise = 1, value = NEW_OBJECT)
    static void newObjectHasEmptySlots() {
        RegularSequences x = new RegularSequences();
        for (int slot = 0; slot < 4; slot++) {
            Checks.due(x.dimension(slot), EMPTY);
            Checks.due(x.value(slot, 0L), EMPTY);
            Checks.due(x.firstMismatch(slot), EMPTY);
            Checks.due(x.clear(slot), 0);
        }
    }

    @Says(promise = 1, value = NEW_OBJECT)
    static void newObjectHasNoObservations() {
        Checks.due(new RegularSequences().forgetObservations(), 0);
        RegularSequences x = new RegularSequences();
        x.constant(0, 3);
        Checks.due(x.firstMismatch(0), NONE);
        Checks.due(x.observe(0L, 0), 1);
        Checks.due(x.firstMismatch(0), 0);
    }

    @Says(promise = 1, value = NEW_OBJECT)
    static void newObjectHasAnEmptyBuffer() {
        Checks.due(new RegularSequences().append(32), 1);
        RegularSequences x = new RegularSequences();
        Checks.due(x.run(), RegularSequences.SYNTAX_ERROR);
        Checks.due(x.errorPosition(0), 0);
    }

    @Says(promise = 1, value = NEW_OBJECT)
    static void newObjectHasNoSavedStates() {
        Checks.due(new RegularSequences().save(), 1);
        RegularSequences x = new RegularSequences();
        Checks.due(x.restore(), RegularSequences.NOTHING_SAVED);
        Checks.due(x.dimension(0), EMPTY);
        Checks.due(x.setBase(2), 2);
        Checks.due(x.restore(), RegularSequences.NOTHING_SAVED);
    }

    // ---- promise 2 ----

    @Says(promise = 2, value = {"- `b`: the new base, 2 to 4", "Returns the previous base"})
    static void setBaseFromEachToEach() {
        for (int from = 2; from <= 4; from++) {
            for (int to = 2; to <= 4; to++) {
                RegularSequences x = Workbenches.withBase(from);
                Checks.due(x.setBase(to), from);
                Checks.due(x.digitCount(0, to - 1), 2);
                Checks.due(x.digitCount(1, to), BAD);
                Checks.due(x.setBase(2), to);
            }
        }
    }

    @Says(promise = 2, value = "BAD_ARGUMENT if b is out of range.")
    static void setBaseOutOfRange() {
        for (int bad : Edges.outside(2, 4)) {
            Refused.due("setBase " + bad, x -> x.setBase(bad), BAD);
            Refused.dueWhenFull("setBase " + bad, x -> x.setBase(bad), BAD);
        }
        Refused.due("setBase 0", x -> x.setBase(0), BAD);
        Refused.due("setBase 2 to the 8th and 2", x -> x.setBase(258), BAD);
    }

    @Says(promise = 2, value = "Sets the base and empties all slots, also if the base is the same.")
    static void setBaseEmptiesAllSlots() {
        for (int to = 2; to <= 4; to++) {
            RegularSequences x = Workbenches.withBase(3);
            x.define(0, 0);
            x.define(1, 8);
            x.numbers(2);
            x.constant(3, 10006);
            Checks.due(x.setBase(to), 3);
            for (int slot = 0; slot < 4; slot++) {
                Checks.due("base " + to, x.dimension(slot), EMPTY);
                Checks.due("base " + to, x.clear(slot), 0);
            }
        }
    }

    @Says(promise = 2, value = "Observations are not changed.")
    static void setBaseKeepsObservations() {
        RegularSequences x = new RegularSequences();
        for (int n = 0; n < 8; n++) {
            x.observe(n, n == 7 ? 0 : n);
        }
        Checks.due(x.setBase(4), 2);
        x.numbers(0);
        Checks.due(x.firstMismatch(0), 7);
        Checks.due(x.observe(9L, 9), RegularSequences.BUFFER_FULL);
        Checks.due(x.forgetObservations(), 8);
    }

    // ---- promise 3 ----

    @Says(promise = 3, value = "- `slot`: the slot, 0 to 3")
    static void defineInFirstAndLastSlot() {
        for (int slot : Edges.ends(0, 3)) {
            RegularSequences x = new RegularSequences();
            Checks.due(x.define(slot, 5), 1);
            for (int other = 0; other < 4; other++) {
                Checks.due(x.dimension(other), other == slot ? 5 : EMPTY);
            }
        }
    }

    @Says(promise = 3, value = NO_SLOT_FIRST)
    static void defineInNoSlot() {
        for (int bad : Edges.NO_SLOTS) {
            for (int dimension : new int[] {0, 8, -1, 9, Integer.MIN_VALUE, Integer.MAX_VALUE}) {
                Refused.due("define " + bad + ", " + dimension, x -> x.define(bad, dimension), NO_SLOT);
            }
        }
    }

    @Says(promise = 3, value = {"- `dimension`: the dimension, 0 to 8", "Returns 1"})
    static void defineSmallestAndLargestDimension() {
        for (int dimension : Edges.ends(0, 8)) {
            RegularSequences x = new RegularSequences();
            x.numbers(1);
            for (int slot = 0; slot < 2; slot++) {
                Checks.due(x.define(slot, dimension), 1);
                Checks.due(x.dimension(slot), dimension);
                Checks.due(x.row(slot, dimension), BAD);
                Checks.due(x.row(slot, 7), dimension == 8 ? 0 : BAD);
            }
        }
    }

    @Says(promise = 3, value = "BAD_ARGUMENT if the dimension is out of range.")
    static void defineDimensionOutOfRange() {
        for (int bad : Edges.outside(0, 8)) {
            Refused.due("define in a held slot " + bad, x -> x.define(0, bad), BAD);
            Refused.due("define in an empty slot " + bad, x -> x.define(2, bad), BAD);
        }
    }

    @Says(promise = 3, value = "Stores the representation of the given dimension in which all entries are 0.")
    static void defineOverEntriesThatAreNotZero() {
        RegularSequences x = Edges.sized(4, 8);
        Checks.due(x.define(0, 8), 1);
        Shape nothing = new Shape(4, 8);
        nothing.dueIn(x, 0);
        x = Edges.sized(4, 8);
        Checks.due(x.define(0, 0), 1);
        Checks.due(x.define(0, 8), 1);
        Checks.due(x.row(0, 7), 0);
        Checks.due(x.column(0, 7), 0);
        for (int digit = 0; digit < 4; digit++) {
            Checks.due(x.entry(0, digit, 7, 7), 0);
        }
    }

    // ---- promise 4 ----

    @Says(promise = 4, value = {"Empties a slot.", "- `slot`: the slot, 0 to 3",
        "Returns 1 if the slot held a representation"})
    static void clearHeldSlot() {
        for (int slot = 0; slot < 4; slot++) {
            for (int dimension : Edges.ends(0, 8)) {
                RegularSequences x = new RegularSequences();
                for (int other = 0; other < 4; other++) {
                    x.define(other, dimension);
                }
                Checks.due(x.clear(slot), 1);
                for (int other = 0; other < 4; other++) {
                    Checks.due(x.dimension(other), other == slot ? EMPTY : dimension);
                }
            }
        }
    }

    @Says(promise = 4, value = "0 if it was already empty")
    static void clearEmptySlot() {
        Refused.due("clear an empty slot", x -> x.clear(2), 0);
        RegularSequences x = new RegularSequences();
        Checks.due(x.clear(3), 0);
        x.numbers(3);
        Checks.due(x.clear(3), 1);
        Checks.due(x.clear(3), 0);
        Checks.due(x.dimension(3), EMPTY);
    }

    @Says(promise = 4, value = "NO_SUCH_SLOT if the slot is out of range.")
    static void clearNoSlot() {
        for (int bad : Edges.NO_SLOTS) {
            Refused.due("clear " + bad, x -> x.clear(bad), NO_SLOT);
        }
    }

    // ---- promises 5 and 6 ----

    private interface Setter {
        int set(RegularSequences x, int slot, int i, int v);
    }

    private interface Getter {
        int get(RegularSequences x, int slot, int i);
    }

    private static void setInFirstAndLastSlot(Setter setter, Getter getter) {
        for (int slot : Edges.ends(0, 3)) {
            RegularSequences x = new RegularSequences();
            x.define(0, 2);
            x.define(3, 2);
            Checks.due(setter.set(x, slot, 1, 9), 0);
            Checks.due(getter.get(x, slot, 1), 9);
            Checks.due(getter.get(x, 3 - slot, 1), 0);
        }
    }

    private static void setFirstAndLastIndex(Setter setter, Getter getter) {
        for (int size = 1; size <= 8; size++) {
            RegularSequences x = new RegularSequences();
            x.define(0, size);
            Checks.due(setter.set(x, 0, 0, 5), 0);
            Checks.due(setter.set(x, 0, size - 1, 6), size == 1 ? 5 : 0);
            Checks.due(getter.get(x, 0, 0), size == 1 ? 6 : 5);
            Checks.due(getter.get(x, 0, size - 1), 6);
        }
    }

    private static void setNoIndex(Setter setter) {
        for (int size : new int[] {0, 1, 2, 8}) {
            for (int bad : Edges.outside(0, size - 1)) {
                Refused.dueIn(() -> Edges.sized(2, size), "index " + bad + " of " + size,
                        x -> setter.set(x, 0, bad, 1), BAD);
            }
        }
    }

    private static void setLowestAndHighestValue(Setter setter, Getter getter) {
        RegularSequences x = new RegularSequences();
        x.define(1, 1);
        Checks.due(setter.set(x, 1, 0, 10006), 0);
        Checks.due(getter.get(x, 1, 0), 10006);
        Checks.due(setter.set(x, 1, 0, 0), 10006);
        Checks.due(getter.get(x, 1, 0), 0);
        Checks.due(setter.set(x, 1, 0, 10006), 0);
        Checks.due(setter.set(x, 1, 0, 10006), 10006);
    }

    private static void setValueOutOfRange(Setter setter) {
        for (int bad : Edges.outside(0, 10006)) {
            Refused.due("value " + bad, x -> setter.set(x, 0, 1, bad), BAD);
            Refused.due("value " + bad, x -> setter.set(x, 3, 0, bad), BAD);
        }
    }

    private static void setInNoSlot(Setter setter) {
        for (int bad : Edges.NO_SLOTS) {
            Refused.due("slot " + bad, x -> setter.set(x, bad, 0, 1), NO_SLOT);
            Refused.due("slot and index " + bad, x -> setter.set(x, bad, bad, 1), NO_SLOT);
            Refused.due("slot and value " + bad, x -> setter.set(x, bad, 0, -1), NO_SLOT);
            Refused.due("all three " + bad, x -> setter.set(x, bad, bad, 10007), NO_SLOT);
        }
    }

    private static void setInEmptySlot(Setter setter) {
        Refused.due("empty slot", x -> setter.set(x, 2, 0, 1), EMPTY);
        Refused.due("empty slot and index", x -> setter.set(x, 2, -1, 1), EMPTY);
        Refused.due("empty slot and value", x -> setter.set(x, 2, 0, 10007), EMPTY);
        Refused.due("empty slot, index and value", x -> setter.set(x, 2, 8, -1), EMPTY);
        Refused.due("index and value of a held slot", x -> setter.set(x, 0, 2, 10007), BAD);
    }

    @Says(promise = 5, value = "- `slot`: the slot, 0 to 3")
    static void setRowInFirstAndLastSlot() {
        setInFirstAndLastSlot(RegularSequences::setRow, RegularSequences::row);
    }

    @Says(promise = 5, value = "- `i`: the index of the entry")
    static void setRowAtFirstAndLastIndex() {
        setFirstAndLastIndex(RegularSequences::setRow, RegularSequences::row);
    }

    @Says(promise = 5, value = "BAD_ARGUMENT if i is not valid")
    static void setRowAtNoIndex() {
        setNoIndex(RegularSequences::setRow);
    }

    @Says(promise = 5, value = {"- `v`: the new entry, 0 to 10006", "Returns the previous entry"})
    static void setRowToLowestAndHighestValue() {
        setLowestAndHighestValue(RegularSequences::setRow, RegularSequences::row);
    }

    @Says(promise = 5, value = "BAD_ARGUMENT if i is not valid or v is out of range.")
    static void setRowToValueOutOfRange() {
        setValueOutOfRange(RegularSequences::setRow);
    }

    @Says(promise = 5, value = NO_SLOT_FIRST)
    static void setRowInNoSlot() {
        setInNoSlot(RegularSequences::setRow);
    }

    @Says(promise = 5, value = EMPTY_SECOND)
    static void setRowInEmptySlot() {
        setInEmptySlot(RegularSequences::setRow);
    }

    @Says(promise = 6, value = "- `slot`: the slot, 0 to 3")
    static void setColumnInFirstAndLastSlot() {
        setInFirstAndLastSlot(RegularSequences::setColumn, RegularSequences::column);
    }

    @Says(promise = 6, value = "- `i`: the index of the entry")
    static void setColumnAtFirstAndLastIndex() {
        setFirstAndLastIndex(RegularSequences::setColumn, RegularSequences::column);
    }

    @Says(promise = 6, value = "BAD_ARGUMENT if i is not valid")
    static void setColumnAtNoIndex() {
        setNoIndex(RegularSequences::setColumn);
    }

    @Says(promise = 6, value = {"- `v`: the new entry, 0 to 10006", "Returns the previous entry"})
    static void setColumnToLowestAndHighestValue() {
        setLowestAndHighestValue(RegularSequences::setColumn, RegularSequences::column);
    }

    @Says(promise = 6, value = "BAD_ARGUMENT if i is not valid or v is out of range.")
    static void setColumnToValueOutOfRange() {
        setValueOutOfRange(RegularSequences::setColumn);
    }

    @Says(promise = 6, value = NO_SLOT_FIRST)
    static void setColumnInNoSlot() {
        setInNoSlot(RegularSequences::setColumn);
    }

    @Says(promise = 6, value = EMPTY_SECOND)
    static void setColumnInEmptySlot() {
        setInEmptySlot(RegularSequences::setColumn);
    }

    // ---- promise 7 ----

    @Says(promise = 7, value = "- `slot`: the slot, 0 to 3")
    static void setEntryInFirstAndLastSlot() {
        setInFirstAndLastSlot((x, slot, i, v) -> x.setEntry(slot, 1, i, 0, v), (x, slot, i) -> x.entry(slot, 1, i, 0));
    }

    @Says(promise = 7, value = "- `digit`: the digit whose matrix is changed")
    static void setEntryOfFirstAndLastDigit() {
        for (int base = 2; base <= 4; base++) {
            RegularSequences x = Workbenches.withBase(base);
            x.define(0, 1);
            Checks.due(x.setEntry(0, 0, 0, 0, 21), 0);
            Checks.due(x.setEntry(0, base - 1, 0, 0, 22), 0);
            for (int digit = 0; digit < base; digit++) {
                Checks.due(x.entry(0, digit, 0, 0), digit == 0 ? 21 : digit == base - 1 ? 22 : 0);
            }
        }
    }

    @Says(promise = 7, value = "BAD_ARGUMENT if digit, i or j is not valid")
    static void setEntryOfNoDigit() {
        for (int base = 2; base <= 4; base++) {
            int own = base;
            for (int bad : Edges.outside(0, base - 1)) {
                Refused.dueIn(() -> Edges.sized(own, 2), "digit " + bad + " in base " + base,
                        x -> x.setEntry(0, bad, 0, 0, 1), BAD);
            }
        }
    }

    @Says(promise = 7, value = "- `i`: the row index")
    static void setEntryInFirstAndLastRow() {
        setFirstAndLastIndex((x, slot, i, v) -> x.setEntry(slot, 1, i, 0, v), (x, slot, i) -> x.entry(slot, 1, i, 0));
    }

    @Says(promise = 7, value = "BAD_ARGUMENT if digit, i or j is not valid")
    static void setEntryInNoRow() {
        setNoIndex((x, slot, i, v) -> x.setEntry(slot, 1, i, 0, v));
    }

    @Says(promise = 7, value = "- `j`: the column index")
    static void setEntryInFirstAndLastColumn() {
        setFirstAndLastIndex((x, slot, j, v) -> x.setEntry(slot, 0, 0, j, v), (x, slot, j) -> x.entry(slot, 0, 0, j));
    }

    @Says(promise = 7, value = "BAD_ARGUMENT if digit, i or j is not valid")
    static void setEntryInNoColumn() {
        setNoIndex((x, slot, j, v) -> x.setEntry(slot, 1, 0, j, v));
    }

    @Says(promise = 7, value = {"- `v`: the new entry, 0 to 10006", "Returns the previous entry"})
    static void setEntryToLowestAndHighestValue() {
        setLowestAndHighestValue((x, slot, i, v) -> x.setEntry(slot, 1, i, i, v),
                (x, slot, i) -> x.entry(slot, 1, i, i));
    }

    @Says(promise = 7, value = "BAD_ARGUMENT if digit, i or j is not valid or v is out of range.")
    static void setEntryToValueOutOfRange() {
        setValueOutOfRange((x, slot, i, v) -> x.setEntry(slot, 2, i, i, v));
        for (int bits = 1; bits < 16; bits++) {
            int digit = (bits & 1) == 0 ? 2 : 3;
            int i = (bits & 2) == 0 ? 1 : 2;
            int j = (bits & 4) == 0 ? 1 : -1;
            int v = (bits & 8) == 0 ? 77 : 10007;
            Refused.due("entry " + digit + ", " + i + ", " + j, x -> x.setEntry(0, digit, i, j, v), BAD);
        }
    }

    @Says(promise = 7, value = NO_SLOT_FIRST)
    static void setEntryInNoSlot() {
        setInNoSlot((x, slot, i, v) -> x.setEntry(slot, 0, i, 0, v));
        for (int bad : Edges.NO_SLOTS) {
            Refused.due("all five " + bad, x -> x.setEntry(bad, bad, bad, bad, -1), NO_SLOT);
            Refused.due("slot and digit " + bad, x -> x.setEntry(bad, 3, 0, 0, 1), NO_SLOT);
        }
    }

    @Says(promise = 7, value = EMPTY_SECOND)
    static void setEntryInEmptySlot() {
        setInEmptySlot((x, slot, i, v) -> x.setEntry(slot, 0, 0, i, v));
        Refused.due("empty slot and digit", x -> x.setEntry(2, 3, 0, 0, 1), EMPTY);
        Refused.due("empty slot and all others", x -> x.setEntry(2, -1, -1, -1, -1), EMPTY);
    }
}
