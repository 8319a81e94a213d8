/** Promises 30 to 37 at their edges: a test for each sentence that names one. */
public final class QuestionEdgesTest {
    private static final int NO_SLOT = RegularSequences.NO_SUCH_SLOT;
    private static final int EMPTY = RegularSequences.EMPTY_SLOT;
    private static final int BAD = RegularSequences.BAD_ARGUMENT;
    private static final int FULL = RegularSequences.BUFFER_FULL;
    private static final int NONE = RegularSequences.NONE;

    private static final String SLOT = "- `slot`: the slot, 0 to 3";
    private static final String NO_SLOT_FIRST = "NO_SUCH_SLOT if the slot is out of range (checked first)";
    private static final String EMPTY_SECOND = "EMPTY_SLOT if the slot is empty (checked second)";
    private static final String NO_SLOT_OF_TWO = "NO_SUCH_SLOT if a or b is out of range (checked first)";

    public static void main(String[] args) throws ReflectiveOperationException {
        Sentences.runAll(QuestionEdgesTest.class);
    }

    // ---- what questions about one slot share ----

    private interface Question {
        int ask(RegularSequences x, int slot);
    }

    /** The numbers reversed in slot 0, dimension 0 in slot 1, nothing in slot 2, the numbers in slot 3. */
    private static RegularSequences mixed() {
        RegularSequences x = new RegularSequences();
        x.numbers(3);
        x.reverse(0, 3);
        x.setRow(0, 1, 5);
        x.define(1, 0);
        return x;
    }

    private static void dueOfFirstAndLastSlot(Question question, int wantOfFirst, int wantOfLast) {
        Refused.dueIn(QuestionEdgesTest::mixed, "slot 0", x -> question.ask(x, 0), wantOfFirst);
        Refused.dueIn(QuestionEdgesTest::mixed, "slot 3", x -> question.ask(x, 3), wantOfLast);
    }

    private static void dueOfNoSlot(Question question) {
        for (int bad : Edges.NO_SLOTS) {
            Refused.due("slot " + bad, x -> question.ask(x, bad), NO_SLOT);
            Refused.dueWhenFull("slot " + bad, x -> question.ask(x, bad), NO_SLOT);
        }
    }

    private static void dueOfEmptySlot(Question question) {
        Refused.due("empty slot", x -> question.ask(x, 2), EMPTY);
        Refused.dueWhenFull("empty slot", x -> question.ask(x, 2), EMPTY);
        for (int slot = 0; slot < 4; slot++) {
            Checks.due("new object", question.ask(new RegularSequences(), slot), EMPTY);
        }
    }

    /** Of the value 1 on one string alone, that of the digit 1, size - 1 times. */
    private static RegularSequences chain(int size) {
        RegularSequences x = new RegularSequences();
        x.define(0, size);
        if (size > 0) {
            x.setRow(0, 0, 1);
            x.setColumn(0, size - 1, 1);
        }
        for (int i = 0; i + 1 < size; i++) {
            x.setEntry(0, 1, i, i + 1, 1);
        }
        return x;
    }

    // ---- promise 30 ----

    @Says(promise = 30, value = SLOT)
    static void minimalDimensionOfFirstAndLastSlot() {
        dueOfFirstAndLastSlot(RegularSequences::minimalDimension, 2, 2);
        RegularSequences x = chain(8);
        x.constant(3, 6);
        Checks.due(x.minimalDimension(0), 8);
        Checks.due(x.minimalDimension(3), 1);
    }

    @Says(promise = 30, value = {"Returns the minimal dimension of a representation.", "The slot is not changed.",
        "Returns the minimal dimension, 0 to 8"})
    static void smallestAndLargestMinimalDimension() {
        for (int size = 0; size <= 8; size++) {
            int own = size;
            Refused.dueIn(() -> chain(own), "dimension " + size, x -> x.minimalDimension(0), size);
        }
        Refused.dueIn(() -> {
            RegularSequences x = new RegularSequences();
            x.define(0, 8);
            return x;
        }, "all entries are 0", x -> x.minimalDimension(0), 0);
    }

    @Says(promise = 30, value = NO_SLOT_FIRST)
    static void minimalDimensionOfNoSlot() {
        dueOfNoSlot(RegularSequences::minimalDimension);
    }

    @Says(promise = 30, value = EMPTY_SECOND)
    static void minimalDimensionOfEmptySlot() {
        dueOfEmptySlot(RegularSequences::minimalDimension);
    }

    // ---- promise 31 ----

    @Says(promise = 31, value = SLOT)
    static void hankelRankOfFirstAndLastSlot() {
        RegularSequences x = chain(3);
        x.constant(3, 6);
        Checks.due(x.hankelRank(0, 3), 3);
        Checks.due(x.hankelRank(3, 3), 1);
    }

    @Says(promise = 31, value = {"Returns the rank of the Hankel matrix of a sequence.",
        "Its rows and its columns are indexed by all digit strings of length at most maxLength",
        "- `maxLength`: the maximum length, 0 to 3", "Returns the rank"})
    static void hankelRankOfSmallestAndLargestLength() {
        RegularSequences x = new RegularSequences();
        x.numbers(0);
        x.constant(1, 9);
        x.define(2, 0);
        Checks.due("the value on the empty string is 0", x.hankelRank(0, 0), 0);
        Checks.due(x.hankelRank(0, 3), 2);
        Checks.due("it is not 0", x.hankelRank(1, 0), 1);
        Checks.due(x.hankelRank(1, 3), 1);
        Checks.due("dimension 0", x.hankelRank(2, 0), 0);
        Checks.due("dimension 0", x.hankelRank(2, 3), 0);
        Checks.due("the string of six digits 1 is the longest", chain(7).hankelRank(0, 3), 1);
        Checks.due("that of seven is too long", chain(8).hankelRank(0, 3), 0);
        Checks.due("two digits 1, length 1", chain(3).hankelRank(0, 1), 1);
        Checks.due("three digits 1, length 1", chain(4).hankelRank(0, 1), 0);
    }

    @Says(promise = 31, value = "Returns the rank")
    static void hankelRankOfEachSizeAfterTheLargest() {
        for (int base = 2; base <= 4; base++) {
            RegularSequences x = Workbenches.withBase(base);
            Shape largest = Shape.scattered(base, 8, 310, 10006);
            largest.putInto(x, 0);
            Checks.due("8", x.hankelRank(0, 3), 8);
            for (int size = 7; size >= 0; size--) {
                x.define(1, size);
                for (int i = 0; i < size; i++) {
                    x.setRow(1, i, 1);
                    x.setColumn(1, i, i == 0 ? 1 : 0);
                }
                Checks.due("the value is 0 behind the empty string", x.hankelRank(1, 3), size == 0 ? 0 : 1);
                Checks.due("8 again", x.hankelRank(0, 3), 8);
            }
        }
    }

    private static final int[] MAX_LENGTHS = {0, 3, -1, 4, Integer.MIN_VALUE, Integer.MAX_VALUE};

    @Says(promise = 31, value = "BAD_ARGUMENT if maxLength is out of range.")
    static void hankelRankOfLengthOutOfRange() {
        for (int bad : Edges.outside(0, 3)) {
            Refused.due("length " + bad, x -> x.hankelRank(0, bad), BAD);
            Refused.due("dimension 0, length " + bad, x -> x.hankelRank(1, bad), BAD);
        }
    }

    @Says(promise = 31, value = NO_SLOT_FIRST)
    static void hankelRankOfNoSlot() {
        for (int length : MAX_LENGTHS) {
            dueOfNoSlot((x, slot) -> x.hankelRank(slot, length));
        }
    }

    @Says(promise = 31, value = EMPTY_SECOND)
    static void hankelRankOfEmptySlot() {
        for (int length : MAX_LENGTHS) {
            dueOfEmptySlot((x, slot) -> x.hankelRank(slot, length));
        }
    }

    // ---- promises 32 and 33 ----

    private interface Comparison {
        int ask(RegularSequences x, int a, int b);
    }

    private static void dueOfNoSlot(Comparison comparison) {
        for (int bad : Edges.NO_SLOTS) {
            for (int other = 0; other < 4; other++) {
                int held = other;
                Refused.due("a " + bad + ", b " + other, x -> comparison.ask(x, bad, held), NO_SLOT);
                Refused.due("a " + other + ", b " + bad, x -> comparison.ask(x, held, bad), NO_SLOT);
            }
            Refused.due("both " + bad, x -> comparison.ask(x, bad, bad), NO_SLOT);
        }
    }

    private static void dueOfEmptySlot(Comparison comparison) {
        for (int other = 0; other < 4; other++) {
            int second = other;
            Refused.due("a empty, b " + other, x -> comparison.ask(x, 2, second), EMPTY);
            Refused.due("b empty, a " + other, x -> comparison.ask(x, second, 2), EMPTY);
        }
    }

    @Says(promise = 32, value = {"- `a`: the first operand, a slot", "- `b`: the second operand, a slot"})
    static void areEqualOfEachPairOfSlots() {
        RegularSequences x = new RegularSequences();
        x.numbers(0);
        x.constant(1, 5);
        x.constant(2, 5);
        x.minimize(3, 0);
        for (int a = 0; a < 4; a++) {
            for (int b = 0; b < 4; b++) {
                Checks.due(a + " and " + b, x.areEqual(a, b), a == b || a + b == 3 ? 1 : 0);
            }
        }
    }

    @Says(promise = 32, value = {"Returns whether two representations are equal as sequences.",
        "Returns 1 if they are equal, 0 if not"})
    static void areEqualOfSmallestAndLargest() {
        for (int size : Edges.ends(0, 8)) {
            RegularSequences x = chain(size);
            x.define(1, 0);
            x.define(2, 8);
            x.copy(3, 0);
            Checks.due(x.areEqual(0, 1), size == 0 ? 1 : 0);
            Checks.due(x.areEqual(2, 0), size == 0 ? 1 : 0);
            Checks.due(x.areEqual(1, 2), 1);
            Checks.due(x.areEqual(0, 3), 1);
            Checks.due(x.dimension(0), size);
            x.setColumn(3, 7, 2);
            Checks.due(x.areEqual(0, 3), size == 0 ? 1 : 0);
        }
    }

    @Says(promise = 32, value = NO_SLOT_OF_TWO)
    static void areEqualOfNoSlot() {
        dueOfNoSlot(RegularSequences::areEqual);
    }

    @Says(promise = 32, value = "EMPTY_SLOT if a or b is empty.")
    static void areEqualOfEmptySlot() {
        dueOfEmptySlot(RegularSequences::areEqual);
    }

    @Says(promise = 33, value = {"- `a`: the first operand, a slot", "- `b`: the second operand, a slot"})
    static void firstDifferenceOfEachPairOfSlots() {
        RegularSequences x = chain(1);
        for (int slot = 1; slot < 4; slot++) {
            x.copy(slot, 0);
            x.setEntry(slot, 1, 0, 0, slot);
        }
        for (int a = 0; a < 4; a++) {
            for (int b = 0; b < 4; b++) {
                Checks.due(a + " and " + b, x.firstDifference(a, b, 0), a == b ? NONE : 1);
                Checks.due(a + " and " + b, x.firstDifference(a, b, 1), a == b ? NONE : 1);
            }
        }
    }

    @Says(promise = 33, value = {
        "Returns the first string, in the order of strings, on which two sequences differ.",
        "- `what`: 0 for the length of the string, 1 for the number that its digits form",
        "Returns the length or the number"})
    static void firstDifferenceOnShortestAndLongestString() {
        RegularSequences x = new RegularSequences();
        x.constant(0, 0);
        x.constant(1, 1);
        Checks.due("the empty string", x.firstDifference(0, 1, 0), 0);
        Checks.due("the empty string", x.firstDifference(0, 1, 1), 0);
        x.digitCount(1, 0);
        Checks.due("the string 0", x.firstDifference(0, 1, 0), 1);
        Checks.due("the string 0", x.firstDifference(0, 1, 1), 0);
        for (int base = 2; base <= 4; base++) {
            x = Workbenches.withBase(base);
            Shape turning = new Shape(base, 8);
            turning.row[0] = 1;
            turning.column[7] = 1;
            for (int i = 0; i < 8; i++) {
                turning.matrices[base - 1][i][(i + 1) % 8] = 1;
            }
            turning.putInto(x, 0);
            x.copy(1, 0);
            x.setEntry(1, base - 1, 7, 0, 10006);
            Checks.due("as long as it can be", x.firstDifference(0, 1, 0), 15);
            Checks.due("the highest number of that length", x.firstDifference(0, 1, 1), turning.strings(15) - 1);
        }
    }

    @Says(promise = 33, value = "NONE if the sequences are equal.")
    static void firstDifferenceOfEqualSequences() {
        for (int what = 0; what <= 1; what++) {
            int asked = what;
            Refused.due("the same slot", x -> x.firstDifference(0, 0, asked), NONE);
            Refused.due("dimension 0", x -> x.firstDifference(1, 1, asked), NONE);
            RegularSequences x = new RegularSequences();
            x.define(0, 0);
            x.define(1, 8);
            x.constant(2, 0);
            Checks.due("dimensions 0 and 8", x.firstDifference(0, 1, what), NONE);
            Checks.due("dimensions 8 and 1", x.firstDifference(1, 2, what), NONE);
        }
    }

    @Says(promise = 33, value = "BAD_ARGUMENT if what is neither 0 nor 1 (checked third)")
    static void firstDifferenceOfNeitherLengthNorNumber() {
        for (int bad : Edges.outside(0, 1)) {
            Refused.due("they differ, what " + bad, x -> x.firstDifference(0, 3, bad), BAD);
            Refused.due("they are equal, what " + bad, x -> x.firstDifference(0, 0, bad), BAD);
            Refused.due("dimension 0, what " + bad, x -> x.firstDifference(1, 1, bad), BAD);
        }
    }

    private static final int[] WHATS = {0, 1, -1, 2, Integer.MIN_VALUE, Integer.MAX_VALUE};

    @Says(promise = 33, value = NO_SLOT_OF_TWO)
    static void firstDifferenceOfNoSlot() {
        for (int what : WHATS) {
            dueOfNoSlot((x, a, b) -> x.firstDifference(a, b, what));
        }
    }

    @Says(promise = 33, value = "EMPTY_SLOT if a or b is empty (checked second)")
    static void firstDifferenceOfEmptySlot() {
        for (int what : WHATS) {
            dueOfEmptySlot((x, a, b) -> x.firstDifference(a, b, what));
        }
    }

    // ---- promise 34 ----

    @Says(promise = 34, value = {SLOT, "Returns 1 if so, 0 if not"})
    static void ignoresLeadingZerosOfFirstAndLastSlot() {
        dueOfFirstAndLastSlot(RegularSequences::ignoresLeadingZeros, 0, 1);
        Refused.due("dimension 0", x -> x.ignoresLeadingZeros(1), 1);
        Refused.dueIn(() -> chain(8), "dimension 8", x -> x.ignoresLeadingZeros(0), 0);
        Refused.dueIn(() -> Edges.sized(2, 8), "dimension 8", x -> x.ignoresLeadingZeros(0), 0);
    }

    @Says(promise = 34, value = "Returns whether leading zeros never change the value")
    static void leadingZeroOfTheEmptyString() {
        RegularSequences x = new RegularSequences();
        x.digitCount(0, 0);
        Checks.due("0 has one 0, the empty string none", x.ignoresLeadingZeros(0), 0);
        x.setEntry(0, 0, 0, 1, 0);
        Checks.due("nothing is counted", x.ignoresLeadingZeros(0), 1);
        x.constant(1, 4);
        x.setEntry(1, 0, 0, 0, 10006);
        Checks.due(x.ignoresLeadingZeros(1), 0);
        x.setEntry(1, 0, 0, 0, 0);
        Checks.due(x.ignoresLeadingZeros(1), 0);
        x.setEntry(1, 0, 0, 0, 1);
        Checks.due(x.ignoresLeadingZeros(1), 1);
    }

    @Says(promise = 34, value = NO_SLOT_FIRST)
    static void ignoresLeadingZerosOfNoSlot() {
        dueOfNoSlot(RegularSequences::ignoresLeadingZeros);
    }

    @Says(promise = 34, value = EMPTY_SECOND)
    static void ignoresLeadingZerosOfEmptySlot() {
        dueOfEmptySlot(RegularSequences::ignoresLeadingZeros);
    }

    // ---- promise 35 ----

    @Says(promise = 35, value = "- `n`: the number, at least 0")
    static void observeSmallestAndLargestNumber() {
        RegularSequences x = new RegularSequences();
        x.numbers(0);
        Checks.due(x.observe(0L, 0), 1);
        Checks.due(x.observe(Long.MAX_VALUE, (int) (Long.MAX_VALUE % 10007)), 2);
        Checks.due(x.observe(1L + Integer.MAX_VALUE, (int) ((1L + Integer.MAX_VALUE) % 10007)), 3);
        Checks.due(x.firstMismatch(0), NONE);
        Checks.due(x.observe(Long.MAX_VALUE, (int) (Long.MAX_VALUE % 10007) + 1), 4);
        Checks.due(x.firstMismatch(0), 3);
    }

    @Says(promise = 35, value = "- `v`: the expected value, 0 to 10006")
    static void observeLowestAndHighestValue() {
        RegularSequences x = new RegularSequences();
        x.numbers(0);
        Checks.due(x.observe(10007L, 0), 1);
        Checks.due(x.observe(10006L, 10006), 2);
        Checks.due(x.firstMismatch(0), NONE);
        Checks.due(x.observe(10006L, 0), 3);
        Checks.due(x.firstMismatch(0), 2);
        Checks.due(x.forgetObservations(), 3);
        Checks.due(x.observe(10007L, 10006), 1);
        Checks.due(x.firstMismatch(0), 0);
    }

    private static final long[] NEGATIVES = {-1, Long.MIN_VALUE, Long.MIN_VALUE + 1, Integer.MIN_VALUE};

    @Says(promise = 35, value = "BAD_ARGUMENT if n is negative or v is out of range (checked first)")
    static void observeOutOfRange() {
        for (long negative : NEGATIVES) {
            for (int v : new int[] {0, 10006, -1, 10007, Integer.MIN_VALUE, Integer.MAX_VALUE}) {
                Refused.due(negative + ", " + v, x -> x.observe(negative, v), BAD);
                Refused.dueWhenFull(negative + ", " + v, x -> x.observe(negative, v), BAD);
            }
        }
        for (int bad : Edges.outside(0, 10006)) {
            for (long n : new long[] {0, 1, Long.MAX_VALUE}) {
                Refused.due(n + ", " + bad, x -> x.observe(n, bad), BAD);
                Refused.dueWhenFull(n + ", " + bad, x -> x.observe(n, bad), BAD);
            }
        }
    }

    @Says(promise = 35, value = {"BUFFER_FULL if there are already 8 observations.",
        "Returns the number of observations after the call"})
    static void observeNineTimes() {
        RegularSequences x = new RegularSequences();
        x.numbers(0);
        for (int n = 1; n <= 7; n++) {
            Checks.due(x.observe(n, n), n);
        }
        Checks.due("the eighth", x.observe(8L, 9), 8);
        Checks.due("the ninth", x.observe(9L, 1), FULL);
        Checks.due("the tenth", x.observe(1L, 2), FULL);
        Checks.due(x.firstMismatch(0), 7);
        Checks.due(x.forgetObservations(), 8);
        Checks.due("there is room again", x.observe(9L, 1), 1);
        Checks.due(x.firstMismatch(0), 0);
        Refused.dueWhenFull("the ninth", y -> y.observe(1L, 2), FULL);
        Refused.dueWhenFull("the ninth", y -> y.observe(Long.MAX_VALUE, 10006), FULL);
    }

    @Says(promise = 35, value = "earlier ones for the same n stay.")
    static void observeTheSameNumberEightTimes() {
        RegularSequences x = new RegularSequences();
        x.constant(0, 4);
        x.constant(1, 5);
        for (int count = 1; count <= 8; count++) {
            Checks.due(x.observe(3L, count == 4 ? 5 : 4), count);
        }
        Checks.due(x.firstMismatch(0), 3);
        Checks.due(x.firstMismatch(1), 0);
        Checks.due(x.observe(3L, 4), FULL);
    }

    // ---- promise 36 ----

    @Says(promise = 36, value = {"Removes all observations.", "Returns the number of observations removed."})
    static void forgetNoneAndEight() {
        RegularSequences x = new RegularSequences();
        x.constant(0, 4);
        Checks.due(x.forgetObservations(), 0);
        Checks.due(x.forgetObservations(), 0);
        for (int count = 1; count <= 9; count++) {
            x.observe(count, 5);
        }
        Checks.due(x.firstMismatch(0), 0);
        Checks.due(x.forgetObservations(), 8);
        Checks.due(x.firstMismatch(0), NONE);
        Checks.due(x.forgetObservations(), 0);
        Checks.due(x.observe(1L, 4), 1);
        Checks.due("the seven behind it are gone", x.firstMismatch(0), NONE);
    }

    // ---- promise 37 ----

    @Says(promise = 37, value = {SLOT, "Returns the index, starting with 0",
        "Returns the index of the first observation, in the order in which they were added, "
            + "that a sequence does not satisfy."})
    static void firstAndLastMismatch() {
        RegularSequences x = new RegularSequences();
        x.constant(0, 4);
        x.constant(3, 5);
        for (int count = 1; count <= 8; count++) {
            x.observe(count, count == 8 ? 5 : 4);
        }
        Checks.due("the last of eight", x.firstMismatch(0), 7);
        Checks.due("the first of eight", x.firstMismatch(3), 0);
        x.define(3, 0);
        Checks.due("dimension 0", x.firstMismatch(3), 0);
    }

    @Says(promise = 37, value = "NONE if all observations are satisfied.")
    static void noMismatch() {
        RegularSequences x = new RegularSequences();
        x.constant(0, 4);
        x.define(1, 0);
        Checks.due("there is no observation", x.firstMismatch(0), NONE);
        for (int count = 1; count <= 8; count++) {
            x.observe(count, 4);
            Checks.due(count + " observations", x.firstMismatch(0), NONE);
            Checks.due(count + " observations, dimension 0", x.firstMismatch(1), 0);
        }
        Refused.due("two observations", y -> y.firstMismatch(0), NONE);
        Refused.dueWhenFull("eight observations", y -> y.firstMismatch(0), NONE);
    }

    @Says(promise = 37, value = NO_SLOT_FIRST)
    static void firstMismatchOfNoSlot() {
        dueOfNoSlot(RegularSequences::firstMismatch);
        for (int bad : Edges.NO_SLOTS) {
            Checks.due("no observations", new RegularSequences().firstMismatch(bad), NO_SLOT);
        }
    }

    @Says(promise = 37, value = EMPTY_SECOND)
    static void firstMismatchOfEmptySlot() {
        dueOfEmptySlot(RegularSequences::firstMismatch);
    }
}
