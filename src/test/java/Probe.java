import java.util.ArrayList;
import java.util.List;

/**
 * All that calls can tell of a workbench, call by call. The workbench is used up by it: what it
 * observed is forgotten, its text is run and its saved states are restored, so that they show too.
 */
final class Probe {
    private static final int DIGITS_OF_ANY_BASE = 4;
    private static final int MOST_SAVED = 5;
    private static final int WHOLE_MATRIX = 3;

    private final RegularSequences x;
    private final List<String> calls = new ArrayList<>();
    private final List<Integer> answers = new ArrayList<>();

    Probe(RegularSequences x) {
        this.x = x;
        errorChain();
        slots();
        observations();
        buffer();
        slots();
        errorChain();
        savedStates();
    }

    /** Where both tell the same, there is no difference between the two workbenches. */
    static void dueAlike(String what, Probe got, Probe want) {
        int count = Math.min(got.answers.size(), want.answers.size());
        for (int k = 0; k < count; k++) {
            Checks.due(what + ", then " + got.calls.get(k), got.answers.get(k), want.answers.get(k));
        }
        Checks.due(what + ", then calls", got.answers.size(), want.answers.size());
    }

    private int note(String call, int answer) {
        calls.add(call);
        answers.add(answer);
        return answer;
    }

    private void errorChain() {
        note("errorDepth", x.errorDepth());
        for (int level = 0; level < 3; level++) {
            note("errorCode", x.errorCode(level));
            note("errorPosition", x.errorPosition(level));
        }
    }

    private void slots() {
        for (int slot = 0; slot < 4; slot++) {
            int size = note("dimension", x.dimension(slot));
            for (int i = 0; i < size; i++) {
                note("row", x.row(slot, i));
                note("column", x.column(slot, i));
                matrixRow(slot, i, size);
            }
        }
    }

    /** Of a large matrix one entry a row, for the number of calls of an object is bounded. */
    private void matrixRow(int slot, int i, int size) {
        for (int digit = 0; digit < DIGITS_OF_ANY_BASE; digit++) {
            if (size > WHOLE_MATRIX) {
                note("entry", x.entry(slot, digit, i, (i * 3 + digit) % size));
                continue;
            }
            for (int j = 0; j < size; j++) {
                note("entry", x.entry(slot, digit, i, j));
            }
        }
    }

    private void observations() {
        for (int slot = 0; slot < 4; slot++) {
            note("firstMismatch", x.firstMismatch(slot));
        }
        note("observe", x.observe(1, 1));
        note("forgetObservations", x.forgetObservations());
    }

    private void buffer() {
        note("append", x.append('2'));
        note("run", x.run());
    }

    private void savedStates() {
        note("save", x.save());
        for (int k = 0; k < MOST_SAVED && note("restore", x.restore()) >= 0; k++) {
            slots();
        }
        note("restore", x.restore());
        note("setBase", x.setBase(2));
    }
}
