import java.util.Arrays;

/**
 * A workbench for regular sequences: functions on digit strings that are given by linear
 * representations over the integers modulo a prime.
 *
 * <p>Everything that a call needs is made in the constructor and used again, so that no call makes
 * an object.
 */
public final class RegularSequences {
    public static final int NO_SUCH_SLOT = -1;
    public static final int EMPTY_SLOT = -2;
    public static final int BAD_ARGUMENT = -3;
    public static final int DIMENSION_LIMIT = -4;
    public static final int BUFFER_FULL = -5;
    public static final int SYNTAX_ERROR = -6;
    public static final int PROGRAM_ERROR = -7;
    public static final int NOTHING_SAVED = -8;
    public static final int NONE = -9;

    private static final int NO_FAULT = 0;

    private static final int MODULUS = 10007;
    private static final int MIN_BASE = 2;
    private static final int MAX_BASE = 4;
    private static final int SLOTS = 4;
    private static final int MAX_DIMENSION = 8;
    private static final int MAX_SAVED = 4;
    private static final int MAX_PADDED_LENGTH = 20;
    private static final int MAX_SUM_LENGTH = 1000000000;
    private static final int MAX_COUNT_LENGTH = 8;
    private static final int MAX_HANKEL_LENGTH = 3;

    private final State state = new State();
    private final State stateBeforeProgram = new State();
    private final State[] saved = new State[MAX_SAVED];
    private int savedCount = 0;
    private final Observations observations = new Observations();
    private final ProgramText text = new ProgramText();
    private final ErrorChain errors = new ErrorChain();

    private final Evaluator evaluator = new Evaluator();
    private final Reach reach = new Reach();
    // Every result is built here first, because its slot may also hold an operand.
    private final Representation result = new Representation();
    private final Representation halfway = new Representation();

    public RegularSequences() {
        for (int k = 0; k < MAX_SAVED; k++) {
            saved[k] = new State();
        }
    }

    // ---- the base and the entries of the slots ----

    public int setBase(int b) {
        if (b < MIN_BASE || b > MAX_BASE) {
            return BAD_ARGUMENT;
        }
        int previous = state.base;
        state.base = b;
        for (int slot = 0; slot < SLOTS; slot++) {
            state.slots[slot].held = false;
        }
        return previous;
    }

    public int define(int slot, int dimension) {
        if (!isSlot(slot)) {
            return NO_SUCH_SLOT;
        }
        if (!isDimension(dimension)) {
            return BAD_ARGUMENT;
        }
        state.slots[slot].makeZero(dimension);
        return 1;
    }

    public int clear(int slot) {
        if (!isSlot(slot)) {
            return NO_SUCH_SLOT;
        }
        int answer = state.slots[slot].held ? 1 : 0;
        state.slots[slot].held = false;
        return answer;
    }

    public int setRow(int slot, int i, int v) {
        int fault = operandFault(slot);
        if (fault != NO_FAULT) {
            return fault;
        }
        Representation a = state.slots[slot];
        if (!a.hasIndex(i) || !isResidue(v)) {
            return BAD_ARGUMENT;
        }
        int previous = a.rowVector[i];
        a.rowVector[i] = v;
        return previous;
    }

    public int setColumn(int slot, int i, int v) {
        int fault = operandFault(slot);
        if (fault != NO_FAULT) {
            return fault;
        }
        Representation a = state.slots[slot];
        if (!a.hasIndex(i) || !isResidue(v)) {
            return BAD_ARGUMENT;
        }
        int previous = a.columnVector[i];
        a.columnVector[i] = v;
        return previous;
    }

    public int setEntry(int slot, int digit, int i, int j, int v) {
        int fault = operandFault(slot);
        if (fault != NO_FAULT) {
            return fault;
        }
        Representation a = state.slots[slot];
        if (!isDigit(digit) || !a.hasIndex(i) || !a.hasIndex(j) || !isResidue(v)) {
            return BAD_ARGUMENT;
        }
        int previous = a.matrices[digit].get(i, j);
        a.matrices[digit].put(i, j, v);
        return previous;
    }

    public int dimension(int slot) {
        int fault = operandFault(slot);
        return fault != NO_FAULT ? fault : state.slots[slot].size;
    }

    public int row(int slot, int i) {
        int fault = operandFault(slot);
        if (fault != NO_FAULT) {
            return fault;
        }
        Representation a = state.slots[slot];
        return a.hasIndex(i) ? a.rowVector[i] : BAD_ARGUMENT;
    }

    public int column(int slot, int i) {
        int fault = operandFault(slot);
        if (fault != NO_FAULT) {
            return fault;
        }
        Representation a = state.slots[slot];
        return a.hasIndex(i) ? a.columnVector[i] : BAD_ARGUMENT;
    }

    public int entry(int slot, int digit, int i, int j) {
        int fault = operandFault(slot);
        if (fault != NO_FAULT) {
            return fault;
        }
        Representation a = state.slots[slot];
        if (!isDigit(digit) || !a.hasIndex(i) || !a.hasIndex(j)) {
            return BAD_ARGUMENT;
        }
        return a.matrices[digit].get(i, j);
    }

    // ---- values ----

    public int value(int slot, long n) {
        int fault = operandFault(slot);
        if (fault != NO_FAULT) {
            return fault;
        }
        return n < 0 ? BAD_ARGUMENT : valueOfNumber(state.slots[slot], n);
    }

    public int paddedValue(int slot, long n, int length) {
        int fault = operandFault(slot);
        if (fault != NO_FAULT) {
            return fault;
        }
        if (n < 0 || length < 0 || length > MAX_PADDED_LENGTH) {
            return BAD_ARGUMENT;
        }
        if (digitsOf(n, state.base) > length) {
            return BAD_ARGUMENT;
        }
        return evaluator.valueOfDigits(state.slots[slot], state.base, n, length);
    }

    public int sumOfLength(int slot, int length) {
        int fault = operandFault(slot);
        if (fault != NO_FAULT) {
            return fault;
        }
        if (length < 0 || length > MAX_SUM_LENGTH) {
            return BAD_ARGUMENT;
        }
        return evaluator.sumOfStrings(state.slots[slot], state.base, length);
    }

    public int countZeros(int slot, int length) {
        int fault = operandFault(slot);
        if (fault != NO_FAULT) {
            return fault;
        }
        if (length < 0 || length > MAX_COUNT_LENGTH) {
            return BAD_ARGUMENT;
        }
        Representation a = state.slots[slot];
        result.makeReverse(a);
        return evaluator.zerosOfLength(a, result, state.base, length);
    }

    public int firstZero(int slot) {
        int fault = operandFault(slot);
        return fault != NO_FAULT ? fault : evaluator.lowestZero(state.slots[slot], state.base);
    }

    // ---- operations ----

    public int copy(int dest, int a) {
        int fault = unaryFault(dest, a);
        if (fault != NO_FAULT) {
            return fault;
        }
        result.take(state.slots[a]);
        return storeResult(dest);
    }

    public int add(int dest, int a, int b) {
        return combine(dest, a, b, 1);
    }

    public int subtract(int dest, int a, int b) {
        return combine(dest, a, b, MODULUS - 1);
    }

    public int multiply(int dest, int a, int b) {
        int fault = binaryFault(dest, a, b);
        if (fault != NO_FAULT) {
            return fault;
        }
        if (state.slots[a].size * state.slots[b].size > MAX_DIMENSION) {
            return DIMENSION_LIMIT;
        }
        result.makeProduct(state.slots[a], state.slots[b]);
        return storeResult(dest);
    }

    public int scale(int dest, int a, int c) {
        int fault = unaryFault(dest, a);
        if (fault != NO_FAULT) {
            return fault;
        }
        if (!isResidue(c)) {
            return BAD_ARGUMENT;
        }
        result.makeMultiple(state.slots[a], c);
        return storeResult(dest);
    }

    public int trailingSection(int dest, int a, int digit) {
        int fault = unaryFault(dest, a);
        if (fault != NO_FAULT) {
            return fault;
        }
        if (!isDigit(digit)) {
            return BAD_ARGUMENT;
        }
        result.makeTrailingSection(state.slots[a], digit);
        return storeResult(dest);
    }

    public int leadingSection(int dest, int a, int digit) {
        int fault = unaryFault(dest, a);
        if (fault != NO_FAULT) {
            return fault;
        }
        if (!isDigit(digit)) {
            return BAD_ARGUMENT;
        }
        result.makeLeadingSection(state.slots[a], digit);
        return storeResult(dest);
    }

    public int reverse(int dest, int a) {
        int fault = unaryFault(dest, a);
        if (fault != NO_FAULT) {
            return fault;
        }
        result.makeReverse(state.slots[a]);
        return storeResult(dest);
    }

    public int minimize(int dest, int a) {
        int fault = unaryFault(dest, a);
        if (fault != NO_FAULT) {
            return fault;
        }
        buildMinimized(state.slots[a]);
        return storeResult(dest);
    }

    public int constant(int dest, int c) {
        if (!isSlot(dest)) {
            return NO_SUCH_SLOT;
        }
        if (!isResidue(c)) {
            return BAD_ARGUMENT;
        }
        result.makeConstant(c, state.base);
        return storeResult(dest);
    }

    public int digitCount(int dest, int digit) {
        if (!isSlot(dest)) {
            return NO_SUCH_SLOT;
        }
        if (!isDigit(digit)) {
            return BAD_ARGUMENT;
        }
        result.makeDigitCount(digit, state.base);
        return storeResult(dest);
    }

    public int numbers(int dest) {
        if (!isSlot(dest)) {
            return NO_SUCH_SLOT;
        }
        result.makeNumbers(state.base);
        return storeResult(dest);
    }

    public int randomize(int dest, int dimension, int seed) {
        if (!isSlot(dest)) {
            return NO_SUCH_SLOT;
        }
        if (!isDimension(dimension)) {
            return BAD_ARGUMENT;
        }
        result.makeRandom(dimension, state.base, seed);
        return storeResult(dest);
    }

    // ---- questions about sequences ----

    public int minimalDimension(int slot) {
        int fault = operandFault(slot);
        if (fault != NO_FAULT) {
            return fault;
        }
        buildMinimized(state.slots[slot]);
        return result.size;
    }

    public int hankelRank(int slot, int maxLength) {
        int fault = operandFault(slot);
        if (fault != NO_FAULT) {
            return fault;
        }
        if (maxLength < 0 || maxLength > MAX_HANKEL_LENGTH) {
            return BAD_ARGUMENT;
        }
        Representation a = state.slots[slot];
        result.makeReverse(a);
        return reach.rankOfHankel(a, result, state.base, maxLength);
    }

    public int areEqual(int a, int b) {
        int fault = binaryFault(a, a, b);
        if (fault != NO_FAULT) {
            return fault;
        }
        return findDifference(state.slots[a], state.slots[b]) < 0 ? 1 : 0;
    }

    public int firstDifference(int a, int b, int what) {
        int fault = binaryFault(a, a, b);
        if (fault != NO_FAULT) {
            return fault;
        }
        if (what != 0 && what != 1) {
            return BAD_ARGUMENT;
        }
        int found = findDifference(state.slots[a], state.slots[b]);
        if (found < 0) {
            return NONE;
        }
        return what == 0 ? reach.lengths[found] : reach.numberValues[found];
    }

    public int ignoresLeadingZeros(int slot) {
        int fault = operandFault(slot);
        if (fault != NO_FAULT) {
            return fault;
        }
        Representation a = state.slots[slot];
        result.makeLeadingSection(a, 0);
        return findDifference(result, a) < 0 ? 1 : 0;
    }

    // ---- observations ----

    public int observe(long n, int v) {
        if (n < 0 || !isResidue(v)) {
            return BAD_ARGUMENT;
        }
        return observations.note(n, v) ? observations.count : BUFFER_FULL;
    }

    public int forgetObservations() {
        int removed = observations.count;
        observations.count = 0;
        return removed;
    }

    public int firstMismatch(int slot) {
        int fault = operandFault(slot);
        if (fault != NO_FAULT) {
            return fault;
        }
        Representation a = state.slots[slot];
        for (int k = 0; k < observations.count; k++) {
            if (valueOfNumber(a, observations.places[k]) != observations.expected[k]) {
                return k;
            }
        }
        return NONE;
    }

    // ---- programs ----

    public int append(int ch) {
        if (ch < ProgramText.LOWEST_SIGN || ch > ProgramText.HIGHEST_SIGN) {
            return BAD_ARGUMENT;
        }
        return text.addSign((char) ch) ? text.length : BUFFER_FULL;
    }

    public int run() {
        errors.depth = 0;
        text.moveToProgram();
        int fault = text.findFault();
        if (fault != ProgramText.WELL_FORMED) {
            errors.push(SYNTAX_ERROR, fault);
            return SYNTAX_ERROR;
        }
        stateBeforeProgram.take(state);
        for (int k = 0; k < text.statements; k++) {
            int answer = executeStatement(text.starts[k]);
            if (answer < 0) {
                state.take(stateBeforeProgram);
                errors.push(PROGRAM_ERROR, text.starts[k]);
                errors.push(answer, k);
                return PROGRAM_ERROR;
            }
        }
        return text.statements;
    }

    public int errorDepth() {
        return errors.depth;
    }

    public int errorCode(int level) {
        return errors.hasLevel(level) ? errors.codes[level] : NONE;
    }

    public int errorPosition(int level) {
        return errors.hasLevel(level) ? errors.positions[level] : NONE;
    }

    // ---- saved states ----

    public int save() {
        if (savedCount >= MAX_SAVED) {
            return BUFFER_FULL;
        }
        saved[savedCount].take(state);
        savedCount++;
        return savedCount;
    }

    public int restore() {
        if (savedCount <= 0) {
            return NOTHING_SAVED;
        }
        savedCount--;
        state.take(saved[savedCount]);
        return savedCount;
    }

    // ---- what the methods above share ----

    private static boolean isSlot(int slot) {
        return slot >= 0 && slot < SLOTS;
    }

    private static boolean isDimension(int dimension) {
        return dimension >= 0 && dimension <= MAX_DIMENSION;
    }

    private static boolean isResidue(int v) {
        return v >= 0 && v < MODULUS;
    }

    private boolean isDigit(int digit) {
        return digit >= 0 && digit < state.base;
    }

    private int operandFault(int slot) {
        if (!isSlot(slot)) {
            return NO_SUCH_SLOT;
        }
        return state.slots[slot].held ? NO_FAULT : EMPTY_SLOT;
    }

    private int unaryFault(int dest, int a) {
        return isSlot(dest) ? operandFault(a) : NO_SUCH_SLOT;
    }

    private int binaryFault(int dest, int a, int b) {
        if (!isSlot(dest) || !isSlot(a) || !isSlot(b)) {
            return NO_SUCH_SLOT;
        }
        return state.slots[a].held && state.slots[b].held ? NO_FAULT : EMPTY_SLOT;
    }

    private int storeResult(int dest) {
        state.slots[dest].take(result);
        return result.size;
    }

    private int combine(int dest, int a, int b, int factor) {
        int fault = binaryFault(dest, a, b);
        if (fault != NO_FAULT) {
            return fault;
        }
        if (state.slots[a].size + state.slots[b].size > MAX_DIMENSION) {
            return DIMENSION_LIMIT;
        }
        result.makeSum(state.slots[a], state.slots[b], factor);
        return storeResult(dest);
    }

    private int valueOfNumber(Representation a, long n) {
        return evaluator.valueOfDigits(a, state.base, n, digitsOf(n, state.base));
    }

    /** Leaves the minimized form in result. A right reduction is a left reduction of the reversal. */
    private void buildMinimized(Representation a) {
        reach.explore(a, reach.nothing, state.base, Reach.ANY_LENGTH);
        reach.writeReduction(a, state.base, halfway);
        result.makeReverse(halfway);
        reach.explore(result, reach.nothing, state.base, Reach.ANY_LENGTH);
        reach.writeReduction(result, state.base, halfway);
        result.makeReverse(halfway);
    }

    /**
     * Answers which kept string of reach is the first on which a and b differ, or -1. Only kept
     * strings need a look: where both agree on them, they agree on all combinations of them.
     */
    private int findDifference(Representation a, Representation b) {
        reach.explore(a, b, state.base, Reach.ANY_LENGTH);
        for (int k = 0; k < reach.span.rank; k++) {
            int valueOfA = dot(reach.span.members[k], 0, a.columnVector, a.size);
            int valueOfB = dot(reach.span.members[k], a.size, b.columnVector, b.size);
            if (valueOfA != valueOfB) {
                return k;
            }
        }
        return -1;
    }

    private int executeStatement(int start) {
        int dest = text.digitAt(start);
        char head = text.signAt(start + 2);
        char second = text.signAt(start + 3);
        int operand = text.digitAt(start + 3);
        int lastOperand = text.digitAt(start + 4);
        switch (head) {
            case 'm':
                return minimize(dest, operand);
            case 'r':
                return reverse(dest, operand);
            case 't':
                return trailingSection(dest, operand, lastOperand);
            case 'l':
                return leadingSection(dest, operand, lastOperand);
            case 'k':
                return constant(dest, text.numberAt(start + 3));
            case 'c':
                return digitCount(dest, operand);
            case 'n':
                return numbers(dest);
            default:
                break;
        }
        int a = text.digitAt(start + 2);
        switch (second) {
            case '+':
                return add(dest, a, lastOperand);
            case '-':
                return subtract(dest, a, lastOperand);
            case '*':
                return multiply(dest, a, lastOperand);
            default:
                return copy(dest, a);
        }
    }

    private static int digitsOf(long n, int base) {
        int digits = 0;
        // No long has more than 63 digits.
        for (long rest = n; rest > 0 && digits < 63; rest /= base) {
            digits++;
        }
        return digits;
    }

    /** Eight products of residues fit into an int, so one division is enough. */
    private static int dot(int[] vector, int from, int[] other, int size) {
        int sum = 0;
        for (int i = 0; i < size; i++) {
            sum += vector[from + i] * other[i];
        }
        return sum % MODULUS;
    }

    /** By Fermat: v to the power of the prime minus 2. */
    private static int inverse(int v) {
        int answer = 1;
        int square = v;
        for (int exponent = MODULUS - 2; exponent > 0; exponent >>= 1) {
            if ((exponent & 1) == 1) {
                answer = answer * square % MODULUS;
            }
            square = square * square % MODULUS;
        }
        return answer;
    }

    /** A square matrix with room for the largest dimension; the size in use is its owner's. */
    private static final class Matrix {
        private final int[] cells = new int[MAX_DIMENSION * MAX_DIMENSION];

        int get(int i, int j) {
            return cells[i * MAX_DIMENSION + j];
        }

        void put(int i, int j, int v) {
            cells[i * MAX_DIMENSION + j] = v;
        }

        void wipe() {
            Arrays.fill(cells, 0);
        }

        void take(Matrix other) {
            System.arraycopy(other.cells, 0, cells, 0, cells.length);
        }

        /** Row vector times matrix, on the part of both vectors that begins at from. */
        void applyToRow(int[] vector, int from, int size, int[] into) {
            for (int j = 0; j < size; j++) {
                int sum = 0;
                for (int i = 0; i < size; i++) {
                    sum += vector[from + i] * cells[i * MAX_DIMENSION + j];
                }
                into[from + j] = sum % MODULUS;
            }
        }

        /** Matrix times column vector. */
        void applyToColumn(int[] vector, int size, int[] into) {
            for (int i = 0; i < size; i++) {
                into[i] = dot(cells, i * MAX_DIMENSION, vector, size);
            }
        }

        void makeSum(Matrix[] summands, int count) {
            wipe();
            for (int k = 0; k < count; k++) {
                for (int at = 0; at < cells.length; at++) {
                    cells[at] = (cells[at] + summands[k].cells[at]) % MODULUS;
                }
            }
        }

        void makeSquare(Matrix root, int size) {
            for (int i = 0; i < size; i++) {
                for (int j = 0; j < size; j++) {
                    int sum = 0;
                    for (int k = 0; k < size; k++) {
                        sum += root.get(i, k) * root.get(k, j);
                    }
                    put(i, j, sum % MODULUS);
                }
            }
        }

        void makeTransposed(Matrix other) {
            for (int i = 0; i < MAX_DIMENSION; i++) {
                for (int j = 0; j < MAX_DIMENSION; j++) {
                    put(i, j, other.get(j, i));
                }
            }
        }

        void putBlock(Matrix block, int from, int size) {
            for (int i = 0; i < size; i++) {
                for (int j = 0; j < size; j++) {
                    cells[(from + i) * MAX_DIMENSION + from + j] = block.cells[i * MAX_DIMENSION + j];
                }
            }
        }

        /** Puts left(i, k) times the whole right matrix at block row i and block column k. */
        void putProducts(Matrix left, int leftSize, Matrix right, int rightSize) {
            for (int i = 0; i < leftSize; i++) {
                for (int k = 0; k < leftSize; k++) {
                    putMultiple(right, rightSize, left.get(i, k), i * rightSize, k * rightSize);
                }
            }
        }

        private void putMultiple(Matrix block, int size, int factor, int top, int left) {
            for (int i = 0; i < size; i++) {
                for (int j = 0; j < size; j++) {
                    put(top + i, left + j, factor * block.get(i, j) % MODULUS);
                }
            }
        }
    }

    /** What a slot holds, or an empty slot. */
    private static final class Representation {
        private final int[] rowVector = new int[MAX_DIMENSION];
        private final int[] columnVector = new int[MAX_DIMENSION];
        private final Matrix[] matrices = new Matrix[MAX_BASE];
        private boolean held = false;
        private int size = 0;
        private int drawState = 0;

        Representation() {
            for (int digit = 0; digit < MAX_BASE; digit++) {
                matrices[digit] = new Matrix();
            }
        }

        boolean hasIndex(int i) {
            return i >= 0 && i < size;
        }

        void makeZero(int newSize) {
            held = true;
            // Every loop over the entries trusts that the size never leaves the arrays.
            size = Math.max(0, Math.min(newSize, MAX_DIMENSION));
            Arrays.fill(rowVector, 0);
            Arrays.fill(columnVector, 0);
            for (int digit = 0; digit < MAX_BASE; digit++) {
                Arrays.fill(matrices[digit].cells, 0);
            }
        }

        void take(Representation other) {
            held = other.held;
            size = other.size;
            System.arraycopy(other.rowVector, 0, rowVector, 0, MAX_DIMENSION);
            System.arraycopy(other.columnVector, 0, columnVector, 0, MAX_DIMENSION);
            for (int digit = 0; digit < MAX_BASE; digit++) {
                matrices[digit].take(other.matrices[digit]);
            }
        }

        /** The sum of a and factor times b, with the factor in the column vector. */
        void makeSum(Representation a, Representation b, int factor) {
            makeZero(a.size + b.size);
            putPart(a, 0, 1);
            putPart(b, a.size, factor);
        }

        private void putPart(Representation part, int from, int factor) {
            for (int i = 0; i < part.size; i++) {
                rowVector[from + i] = part.rowVector[i];
                columnVector[from + i] = part.columnVector[i] * factor % MODULUS;
            }
            for (int digit = 0; digit < MAX_BASE; digit++) {
                matrices[digit].putBlock(part.matrices[digit], from, part.size);
            }
        }

        void makeProduct(Representation a, Representation b) {
            makeZero(a.size * b.size);
            for (int i = 0; i < a.size; i++) {
                for (int j = 0; j < b.size; j++) {
                    int at = i * b.size + j;
                    rowVector[at] = a.rowVector[i] * b.rowVector[j] % MODULUS;
                    columnVector[at] = a.columnVector[i] * b.columnVector[j] % MODULUS;
                }
            }
            for (int digit = 0; digit < MAX_BASE; digit++) {
                matrices[digit].putProducts(a.matrices[digit], a.size, b.matrices[digit], b.size);
            }
        }

        void makeMultiple(Representation a, int factor) {
            take(a);
            for (int i = 0; i < size; i++) {
                rowVector[i] = a.rowVector[i] * factor % MODULUS;
            }
        }

        void makeTrailingSection(Representation a, int digit) {
            take(a);
            a.matrices[digit].applyToColumn(a.columnVector, a.size, columnVector);
        }

        void makeLeadingSection(Representation a, int digit) {
            take(a);
            a.matrices[digit].applyToRow(a.rowVector, 0, a.size, rowVector);
        }

        void makeReverse(Representation a) {
            held = a.held;
            size = a.size;
            System.arraycopy(a.columnVector, 0, rowVector, 0, MAX_DIMENSION);
            System.arraycopy(a.rowVector, 0, columnVector, 0, MAX_DIMENSION);
            for (int digit = 0; digit < MAX_BASE; digit++) {
                matrices[digit].makeTransposed(a.matrices[digit]);
            }
        }

        void makeConstant(int c, int base) {
            makeZero(1);
            rowVector[0] = c;
            columnVector[0] = 1;
            for (int digit = 0; digit < base; digit++) {
                matrices[digit].put(0, 0, 1);
            }
        }

        void makeDigitCount(int counted, int base) {
            makeZero(2);
            rowVector[0] = 1;
            columnVector[1] = 1;
            for (int digit = 0; digit < base; digit++) {
                matrices[digit].put(0, 0, 1);
                matrices[digit].put(0, 1, digit == counted ? 1 : 0);
                matrices[digit].put(1, 1, 1);
            }
        }

        void makeNumbers(int base) {
            makeZero(2);
            rowVector[1] = 1;
            columnVector[0] = 1;
            for (int digit = 0; digit < base; digit++) {
                matrices[digit].put(0, 0, base);
                matrices[digit].put(1, 0, digit);
                matrices[digit].put(1, 1, 1);
            }
        }

        void makeRandom(int newSize, int base, int seed) {
            makeZero(newSize);
            drawState = seed;
            drawVector(rowVector);
            for (int digit = 0; digit < base; digit++) {
                for (int i = 0; i < size; i++) {
                    for (int j = 0; j < size; j++) {
                        matrices[digit].put(i, j, draw());
                    }
                }
            }
            drawVector(columnVector);
        }

        private void drawVector(int[] vector) {
            for (int i = 0; i < size; i++) {
                vector[i] = draw();
            }
        }

        private int draw() {
            drawState = drawState * 1103515245 + 12345;
            return (drawState >>> 16) % 3;
        }
    }

    /** The base and all slots: what save keeps. */
    private static final class State {
        private int base = MIN_BASE;
        private final Representation[] slots = new Representation[SLOTS];

        State() {
            for (int slot = 0; slot < SLOTS; slot++) {
                slots[slot] = new Representation();
            }
        }

        void take(State other) {
            base = other.base;
            for (int slot = 0; slot < SLOTS; slot++) {
                slots[slot].take(other.slots[slot]);
            }
        }
    }

    /** Values, sums and zeros of one representation. */
    private static final class Evaluator {
        private static final int NUMBERS_SEARCHED = 4096;
        private static final int HALF_LENGTH = MAX_COUNT_LENGTH / 2;
        // As many as there are strings of half the length in the largest base.
        private static final int TABLE_ROWS = 256;

        private final int[] vector = new int[MAX_DIMENSION];
        private final int[] spare = new int[MAX_DIMENSION];
        private final Matrix power = new Matrix();
        private final Matrix spareMatrix = new Matrix();
        private final int[][] beginnings = new int[TABLE_ROWS][MAX_DIMENSION];
        private final int[][] endings = new int[TABLE_ROWS][MAX_DIMENSION];

        /**
         * The value on the last digits of n, as many as length says. It goes from the last digit to
         * the first, with columns, because the digits of n come in that order.
         */
        int valueOfDigits(Representation a, int base, long n, int length) {
            System.arraycopy(a.columnVector, 0, vector, 0, MAX_DIMENSION);
            long rest = n;
            for (int k = 0; k < length; k++) {
                int digit = (int) (rest % base);
                a.matrices[digit].applyToColumn(vector, a.size, spare);
                System.arraycopy(spare, 0, vector, 0, MAX_DIMENSION);
                rest /= base;
            }
            return dot(a.rowVector, 0, vector, a.size);
        }

        /** All strings at once: each further digit multiplies by the sum of all matrices. */
        int sumOfStrings(Representation a, int base, int length) {
            System.arraycopy(a.rowVector, 0, vector, 0, MAX_DIMENSION);
            power.makeSum(a.matrices, base);
            for (int rest = length; rest > 0; rest >>= 1) {
                if ((rest & 1) == 1) {
                    power.applyToRow(vector, 0, a.size, spare);
                    System.arraycopy(spare, 0, vector, 0, MAX_DIMENSION);
                }
                spareMatrix.makeSquare(power, a.size);
                power.take(spareMatrix);
            }
            return dot(vector, 0, a.columnVector, a.size);
        }

        /** Each string is a first half and a second half, so that few vectors make all values. */
        int zerosOfLength(Representation a, Representation reversed, int base, int length) {
            int firstHalf = length / 2;
            int firsts = fillColumns(beginnings, reversed, base, firstHalf);
            int seconds = fillColumns(endings, a, base, length - firstHalf);
            int zeros = 0;
            for (int i = 0; i < firsts; i++) {
                for (int j = 0; j < seconds; j++) {
                    if (dot(beginnings[i], 0, endings[j], a.size) == 0) {
                        zeros++;
                    }
                }
            }
            return zeros;
        }

        int lowestZero(Representation a, int base) {
            int block = fillColumns(endings, a, base, HALF_LENGTH);
            fillRowsOfNumbers(a, base);
            for (int n = 0; n < NUMBERS_SEARCHED; n++) {
                // A number below the block has no digits before its ending, nor leading zeros in it.
                int found = n < block
                        ? dot(beginnings[n], 0, a.columnVector, a.size)
                        : dot(beginnings[n / block], 0, endings[n % block], a.size);
                if (found == 0) {
                    return n;
                }
            }
            return NONE;
        }

        /**
         * Puts into row n of the table the matrices of the digits of n, padded to the length, times
         * the column vector. Answers how many rows these are.
         */
        private int fillColumns(int[][] table, Representation a, int base, int length) {
            System.arraycopy(a.columnVector, 0, table[0], 0, MAX_DIMENSION);
            int count = 1;
            for (int k = 0; k < length && k < HALF_LENGTH; k++) {
                // Digit 0 is the last one because it writes over the rows that all of them read.
                for (int digit = base - 1; digit >= 0; digit--) {
                    for (int n = 0; n < count; n++) {
                        a.matrices[digit].applyToColumn(table[n], a.size, spare);
                        System.arraycopy(spare, 0, table[digit * count + n], 0, MAX_DIMENSION);
                    }
                }
                count *= base;
            }
            return count;
        }

        private void fillRowsOfNumbers(Representation a, int base) {
            System.arraycopy(a.rowVector, 0, beginnings[0], 0, MAX_DIMENSION);
            for (int n = 1; n < TABLE_ROWS; n++) {
                a.matrices[n % base].applyToRow(beginnings[n / base], 0, a.size, beginnings[n]);
            }
        }
    }

    /** A growing list of independent vectors, the members, in which other vectors can be written. */
    private static final class Span {
        private static final int WIDTH = 2 * MAX_DIMENSION;

        private final int[][] members = new int[WIDTH][WIDTH];
        // Each echelon vector is 1 at its pivot and 0 at the pivots of those before it; the row of
        // the same index in combinations writes it in the members.
        private final int[][] echelon = new int[WIDTH][WIDTH];
        private final int[][] combinations = new int[WIDTH][WIDTH];
        private final int[] pivots = new int[WIDTH];
        private final int[] remainder = new int[WIDTH];
        private final int[] coefficients = new int[WIDTH];
        private int width = 0;
        private int rank = 0;

        void reset(int newWidth) {
            width = Math.max(0, Math.min(newWidth, WIDTH));
            rank = 0;
        }

        /**
         * Makes the vector a member if it is no combination of the members, and answers whether it
         * did. Either way the coefficients write it in the members afterwards.
         */
        boolean admit(int[] vector) {
            System.arraycopy(vector, 0, remainder, 0, width);
            Arrays.fill(coefficients, 0);
            for (int k = 0; k < rank; k++) {
                int factor = remainder[pivots[k]];
                addMultiple(remainder, echelon[k], MODULUS - factor, width);
                addMultiple(coefficients, combinations[k], factor, rank);
            }
            int pivot = 0;
            while (pivot < width && remainder[pivot] == 0) {
                pivot++;
            }
            if (pivot >= width || rank >= WIDTH) {
                return false;
            }
            System.arraycopy(vector, 0, members[rank], 0, width);
            keepRemainder(pivot);
            return true;
        }

        private static void addMultiple(int[] target, int[] source, int factor, int count) {
            for (int i = 0; i < count; i++) {
                target[i] = (target[i] + factor * source[i]) % MODULUS;
            }
        }

        private void keepRemainder(int pivot) {
            int factor = inverse(remainder[pivot]);
            for (int i = 0; i < WIDTH; i++) {
                echelon[rank][i] = factor * remainder[i] % MODULUS;
                combinations[rank][i] = factor * (MODULUS - coefficients[i]) % MODULUS;
            }
            combinations[rank][rank] = factor;
            Arrays.fill(coefficients, 0);
            coefficients[rank] = 1;
            pivots[rank] = pivot;
            rank++;
        }
    }

    /**
     * The strings that a left reduction keeps, in their order; the reached vectors are the members
     * of the span. A string can be kept only if the string without its last digit is kept, so only
     * kept strings are made longer.
     */
    private static final class Reach {
        private static final int ANY_LENGTH = Span.WIDTH;

        private final Span span = new Span();
        private final int[][] successors = new int[Span.WIDTH * MAX_BASE][Span.WIDTH];
        private final int[] lengths = new int[Span.WIDTH];
        private final int[] numberValues = new int[Span.WIDTH];
        private final int[] candidate = new int[Span.WIDTH];
        private final Representation nothing = new Representation();
        private final Matrix keptRows = new Matrix();
        private final int[] image = new int[MAX_DIMENSION];
        private final Span images = new Span();

        /** Explores the reached vectors of a, each followed by that of b for the same string. */
        void explore(Representation a, Representation b, int base, int maxLength) {
            span.reset(a.size + b.size);
            System.arraycopy(a.rowVector, 0, candidate, 0, a.size);
            System.arraycopy(b.rowVector, 0, candidate, a.size, b.size);
            span.admit(candidate);
            lengths[0] = 0;
            numberValues[0] = 0;
            for (int k = 0; k < Span.WIDTH && k < span.rank; k++) {
                for (int digit = 0; digit < base && lengths[k] < maxLength; digit++) {
                    a.matrices[digit].applyToRow(span.members[k], 0, a.size, candidate);
                    b.matrices[digit].applyToRow(span.members[k], a.size, b.size, candidate);
                    if (span.admit(candidate)) {
                        lengths[span.rank - 1] = lengths[k] + 1;
                        numberValues[span.rank - 1] = numberValues[k] * base + digit;
                    }
                    int[] successor = successors[k * MAX_BASE + digit];
                    System.arraycopy(span.coefficients, 0, successor, 0, Span.WIDTH);
                }
            }
        }

        /** Writes the left reduction of a, which explore has looked at last, with nothing beside it. */
        void writeReduction(Representation a, int base, Representation target) {
            target.makeZero(span.rank);
            for (int i = 0; i < target.size; i++) {
                target.rowVector[i] = i == 0 ? 1 : 0;
                target.columnVector[i] = dot(span.members[i], 0, a.columnVector, a.size);
                for (int digit = 0; digit < base; digit++) {
                    for (int j = 0; j < target.size; j++) {
                        target.matrices[digit].put(i, j, successors[i * MAX_BASE + digit][j]);
                    }
                }
            }
        }

        /**
         * The Hankel matrix is all reached vectors times all columns, so kept reached vectors times
         * kept columns have the same rank.
         */
        int rankOfHankel(Representation a, Representation reversed, int base, int maxLength) {
            explore(a, nothing, base, maxLength);
            keptRows.wipe();
            for (int i = 0; i < span.rank && i < MAX_DIMENSION; i++) {
                for (int j = 0; j < a.size; j++) {
                    keptRows.put(i, j, span.members[i][j]);
                }
            }
            explore(reversed, nothing, base, maxLength);
            images.reset(a.size);
            for (int i = 0; i < span.rank; i++) {
                keptRows.applyToColumn(span.members[i], a.size, image);
                images.admit(image);
            }
            return images.rank;
        }
    }

    /** What was observed, in the order of the calls. */
    private static final class Observations {
        private static final int MAX_COUNT = 8;

        private final long[] places = new long[MAX_COUNT];
        private final int[] expected = new int[MAX_COUNT];
        private int count = 0;

        boolean note(long n, int v) {
            if (count >= MAX_COUNT) {
                return false;
            }
            places[count] = n;
            expected[count] = v;
            count++;
            return true;
        }
    }

    /** What the latest run has left: a code and a position a level. */
    private static final class ErrorChain {
        private static final int MAX_DEPTH = 2;

        private final int[] codes = new int[MAX_DEPTH];
        private final int[] positions = new int[MAX_DEPTH];
        private int depth = 0;

        boolean hasLevel(int level) {
            return level >= 0 && level < depth;
        }

        void push(int code, int position) {
            if (depth < MAX_DEPTH) {
                codes[depth] = code;
                positions[depth] = position;
                depth++;
            }
        }
    }

    /** The buffer, the program that it held at the latest run, and where its statements begin. */
    private static final class ProgramText {
        private static final int LOWEST_SIGN = 32;
        private static final int HIGHEST_SIGN = 126;
        private static final int MAX_LENGTH = 80;
        // The shortest statement and its semicolon take four characters.
        private static final int MAX_STATEMENTS = (MAX_LENGTH + 1) / 4;
        private static final int WELL_FORMED = -1;

        // What the next character may be. From every stage some program can be reached, so the
        // first character that is rejected is the error position.
        private static final int REJECTED = -1;
        private static final int AT_TARGET = 0;
        private static final int AT_EQUALS = 1;
        private static final int AT_EXPRESSION = 2;
        private static final int AFTER_SLOT = 3;
        private static final int BEFORE_TWO_DIGITS = 4;
        private static final int BEFORE_LAST_DIGIT = 5;
        // The stages from here to COMPLETE count the digits of a constant.
        private static final int BEFORE_NUMBER = 6;
        private static final int COMPLETE = BEFORE_NUMBER + 5;

        private final char[] signs = new char[MAX_LENGTH];
        private final int[] starts = new int[MAX_STATEMENTS];
        private int length = 0;
        private int programLength = 0;
        private int statements = 0;

        boolean addSign(char sign) {
            if (length >= MAX_LENGTH) {
                return false;
            }
            signs[length] = sign;
            length++;
            return true;
        }

        /** The buffer is empty from here on, whatever becomes of the program. */
        void moveToProgram() {
            programLength = length;
            length = 0;
        }

        char signAt(int at) {
            return at >= 0 && at < programLength ? signs[at] : ';';
        }

        int digitAt(int at) {
            return signAt(at) - '0';
        }

        int numberAt(int from) {
            int number = 0;
            for (int at = from; at < programLength && isDecimal(signAt(at)); at++) {
                number = number * 10 + digitAt(at);
            }
            return number;
        }

        /** Answers the error position or WELL_FORMED, and finds the starts of the statements. */
        int findFault() {
            statements = 0;
            int stage = AT_TARGET;
            for (int at = 0; at < programLength; at++) {
                if (stage == AT_TARGET && statements < MAX_STATEMENTS) {
                    starts[statements] = at;
                    statements++;
                }
                stage = nextStage(stage, signAt(at));
                if (stage == REJECTED) {
                    return at;
                }
            }
            return mayEnd(stage) ? WELL_FORMED : programLength;
        }

        private static boolean mayEnd(int stage) {
            return stage == AFTER_SLOT || stage > BEFORE_NUMBER;
        }

        private static int nextStage(int stage, char sign) {
            switch (stage) {
                case AT_TARGET:
                    return isDecimal(sign) ? AT_EQUALS : REJECTED;
                case AT_EQUALS:
                    return sign == '=' ? AT_EXPRESSION : REJECTED;
                case AT_EXPRESSION:
                    return stageAfterHead(sign);
                case AFTER_SLOT:
                    return isOperator(sign) ? BEFORE_LAST_DIGIT : stageAfterStatement(sign);
                case BEFORE_TWO_DIGITS:
                    return isDecimal(sign) ? BEFORE_LAST_DIGIT : REJECTED;
                case BEFORE_LAST_DIGIT:
                    return isDecimal(sign) ? COMPLETE : REJECTED;
                default:
                    return stageInNumber(stage, sign);
            }
        }

        private static int stageAfterHead(char sign) {
            switch (sign) {
                case 'm':
                case 'r':
                case 'c':
                    return BEFORE_LAST_DIGIT;
                case 't':
                case 'l':
                    return BEFORE_TWO_DIGITS;
                case 'k':
                    return BEFORE_NUMBER;
                case 'n':
                    return COMPLETE;
                default:
                    return isDecimal(sign) ? AFTER_SLOT : REJECTED;
            }
        }

        private static int stageInNumber(int stage, char sign) {
            if (stage < COMPLETE && isDecimal(sign)) {
                return stage + 1;
            }
            return stage > BEFORE_NUMBER ? stageAfterStatement(sign) : REJECTED;
        }

        private static int stageAfterStatement(char sign) {
            return sign == ';' ? AT_TARGET : REJECTED;
        }

        private static boolean isDecimal(char sign) {
            return sign >= '0' && sign <= '9';
        }

        private static boolean isOperator(char sign) {
            return sign == '+' || sign == '-' || sign == '*';
        }
    }
}
