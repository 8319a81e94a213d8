/** Promises 43 and 44: saved states. */
public final class SavingTest {
    private static final int EMPTY = RegularSequences.EMPTY_SLOT;
    private static final int FULL = RegularSequences.BUFFER_FULL;
    private static final int NOTHING = RegularSequences.NOTHING_SAVED;

    public static void main(String[] args) {
        promise43SaveCounts();
        promise43SaveTakesCopies();
        promise44RestoreInReverseOrder();
        promise44RestoreEverySlotAndTheBase();
        promise44RestoreEmptySlots();
        promises43And44LeaveTheRest();
        promise44RestoredStatesAreCopies();
        Checks.finish();
    }

    private static void promise43SaveCounts() {
        RegularSequences x = new RegularSequences();
        Checks.due(x.restore(), NOTHING);
        for (int count = 1; count <= 4; count++) {
            x.constant(0, count);
            Checks.due(x.save(), count);
        }
        x.constant(0, 5);
        Checks.due(x.save(), FULL);
        Checks.due(x.save(), FULL);
        Checks.due(x.value(0, 0), 5);
        for (int count = 3; count >= 0; count--) {
            Checks.due(x.restore(), count);
            Checks.due("a refused one was not taken", x.value(0, 0), count + 1);
        }
        Checks.due(x.restore(), NOTHING);
        Checks.due(x.value(0, 0), 1);
        Checks.due(x.save(), 1);
        Checks.due(x.restore(), 0);
    }

    private static void promise43SaveTakesCopies() {
        RegularSequences x = new RegularSequences();
        Shape shape = Shape.scattered(2, 4, 1, 10006);
        shape.putInto(x, 2);
        Checks.due(x.save(), 1);
        shape.dueIn(x, 2);
        x.setRow(2, 0, 1);
        x.setColumn(2, 1, 1);
        x.setEntry(2, 1, 3, 3, 1);
        x.setEntry(2, 0, 0, 0, 1);
        Checks.due(x.restore(), 0);
        shape.dueIn(x, 2);
    }

    private static void promise44RestoreInReverseOrder() {
        RegularSequences x = new RegularSequences();
        x.constant(0, 10);
        x.save();
        x.constant(0, 20);
        x.save();
        x.constant(0, 30);
        Checks.due(x.restore(), 1);
        Checks.due(x.value(0, 0), 20);
        x.constant(0, 40);
        Checks.due(x.save(), 2);
        x.constant(0, 50);
        Checks.due(x.save(), 3);
        Checks.due(x.restore(), 2);
        Checks.due(x.value(0, 0), 50);
        Checks.due(x.restore(), 1);
        Checks.due(x.value(0, 0), 40);
        Checks.due(x.restore(), 0);
        Checks.due(x.value(0, 0), 10);
        Checks.due(x.restore(), NOTHING);
        Checks.due(x.value(0, 0), 10);
    }

    private static void promise44RestoreEverySlotAndTheBase() {
        for (int base = 2; base <= 4; base++) {
            RegularSequences x = Workbenches.withBase(base);
            Shape[] shapes = new Shape[4];
            for (int slot = 0; slot < 4; slot++) {
                int size = slot < 3 ? slot + 1 : new int[] {8, 6, 4}[base - 2];
                shapes[slot] = Shape.scattered(base, size, 100 + slot, 10006);
                shapes[slot].putInto(x, slot);
            }
            Checks.due(x.save(), 1);
            Checks.due(x.setBase(base == 2 ? 4 : 2), base);
            for (int slot = 0; slot < 4; slot++) {
                x.randomize(slot, 8, slot);
            }
            Checks.due(x.restore(), 0);
            for (int slot = 0; slot < 4; slot++) {
                shapes[slot].dueIn(x, slot);
            }
            x.numbers(0);
            Shape.numbers(base).dueIn(x, 0);
            Checks.due(x.setBase(2), base);
        }
    }

    private static void promise44RestoreEmptySlots() {
        RegularSequences x = new RegularSequences();
        x.define(1, 0);
        x.save();
        for (int slot = 0; slot < 4; slot++) {
            x.numbers(slot);
        }
        x.save();
        for (int slot = 0; slot < 4; slot++) {
            x.clear(slot);
        }
        Checks.due(x.restore(), 1);
        for (int slot = 0; slot < 4; slot++) {
            Checks.due(x.dimension(slot), 2);
        }
        Checks.due(x.restore(), 0);
        Checks.due(x.dimension(0), EMPTY);
        Checks.due(x.dimension(1), 0);
        Checks.due(x.dimension(2), EMPTY);
        Checks.due(x.dimension(3), EMPTY);
    }

    private static void promises43And44LeaveTheRest() {
        RegularSequences x = new RegularSequences();
        x.numbers(0);
        x.observe(1, 1);
        x.append('1');
        x.save();
        Checks.due("save keeps the observations", x.observe(2, 3), 2);
        Checks.due("and the buffer", x.append('='), 2);
        x.restore();
        Checks.due(x.observe(3, 3), 3);
        Checks.due(x.firstMismatch(0), 1);
        Checks.due(x.append('m'), 3);
        x.save();
        Checks.due(x.append('2'), 4);
        Checks.due(x.run(), RegularSequences.PROGRAM_ERROR);
        x.restore();
        Checks.due("and the error chain", x.errorDepth(), 2);
        Checks.due(x.errorCode(1), EMPTY);
        Checks.due(x.forgetObservations(), 3);
        x.save();
        x.restore();
        Checks.due(x.forgetObservations(), 0);
        Checks.due(x.append('2'), 1);
    }

    private static void promise44RestoredStatesAreCopies() {
        RegularSequences x = new RegularSequences();
        x.constant(0, 1);
        x.save();
        x.save();
        x.restore();
        x.setRow(0, 0, 77);
        Checks.due(x.value(0, 0), 77);
        Checks.due(x.restore(), 0);
        Checks.due(x.value(0, 0), 1);
    }
}
