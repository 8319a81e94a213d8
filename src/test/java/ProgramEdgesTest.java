/** Promises 38 to 44 at their edges: a test for each sentence that names one. */
public final class ProgramEdgesTest {
    private static final int NO_SLOT = RegularSequences.NO_SUCH_SLOT;
    private static final int EMPTY = RegularSequences.EMPTY_SLOT;
    private static final int BAD = RegularSequences.BAD_ARGUMENT;
    private static final int FULL = RegularSequences.BUFFER_FULL;
    private static final int SYNTAX = RegularSequences.SYNTAX_ERROR;
    private static final int FAILED = RegularSequences.PROGRAM_ERROR;
    private static final int NOTHING = RegularSequences.NOTHING_SAVED;
    private static final int NONE = RegularSequences.NONE;

    /** 80 characters, 20 statements. */
    private static final String LONGEST = "0=n;1=n;2=n;3=n;".repeat(4) + "0=n;1=n;2=n;3=k7";

    public static void main(String[] args) throws ReflectiveOperationException {
        Sentences.runAll(ProgramEdgesTest.class);
    }

    // ---- promise 38 ----

    @Says(promise = 38, value = "- `ch`: the character code, 32 to 126")
    static void appendLowestAndHighestCode() {
        RegularSequences x = new RegularSequences();
        Checks.due(x.append(32), 1);
        Checks.due(x.append(126), 2);
        Checks.due(x.run(), SYNTAX);
        Checks.due("a space begins no program", x.errorPosition(0), 0);
        x.append('0');
        x.append('=');
        Checks.due(x.append(126), 3);
        Checks.due(x.run(), SYNTAX);
        Checks.due(x.errorPosition(0), 2);
    }

    @Says(promise = 38, value = "BAD_ARGUMENT if ch is out of range (checked first)")
    static void appendCodeOutOfRange() {
        for (int bad : Edges.outside(32, 126)) {
            Refused.due("append " + bad, x -> x.append(bad), BAD);
            Refused.dueWhenFull("append " + bad, x -> x.append(bad), BAD);
        }
        for (int bad : new int[] {0, 10, 128, 256 + '2', 65536 + '2', '2' - 65536, 233}) {
            Refused.due("append " + bad, x -> x.append(bad), BAD);
            Refused.dueWhenFull("append " + bad, x -> x.append(bad), BAD);
        }
    }

    @Says(promise = 38, value = {"BUFFER_FULL if the buffer already holds 80 characters.",
        "Returns the length of the buffer after the call"})
    static void appendToEightyCharacters() {
        RegularSequences x = new RegularSequences();
        for (int k = 0; k < 80; k++) {
            Checks.due(x.append(LONGEST.charAt(k)), k + 1);
        }
        Checks.due("the 81st", x.append('1'), FULL);
        Checks.due("the 82nd", x.append(';'), FULL);
        Checks.due("what was refused is not run", x.run(), 20);
        Checks.due(x.value(3, 0L), 7);
        Checks.due("there is room again", x.append('0'), 1);
        for (int ch : Edges.ends(32, 126)) {
            Refused.dueWhenFull("append " + ch, y -> y.append(ch), FULL);
        }
    }

    // ---- promise 39 ----

    @Says(promise = 39, value = "Returns the number of statements executed")
    static void runOneAndTwentyStatements() {
        RegularSequences x = new RegularSequences();
        Checks.due(Workbenches.runText(x, "3=n"), 1);
        Shape.numbers(2).dueIn(x, 3);
        Checks.due(Workbenches.runText(x, "3=n;2=3"), 2);
        Checks.due(Workbenches.runText(x, LONGEST), 20);
        Checks.due(x.errorDepth(), 0);
        for (int slot = 0; slot < 3; slot++) {
            Shape.numbers(2).dueIn(x, slot);
        }
        Shape.constant(2, 7).dueIn(x, 3);
        Checks.due("79 characters", Workbenches.runText(x, LONGEST.substring(0, 76) + "3=n"), 20);
        Shape.numbers(2).dueIn(x, 3);
    }

    @Says(promise = 39, value = "SYNTAX_ERROR if the text is not a program")
    static void runTextThatIsNoProgram() {
        for (String text : new String[] {"", " ", ";", "0", "0=", "0=n;", "0=n;;1=n",
            LONGEST.substring(0, 76) + "3=n;"}) {
            RegularSequences x = new RegularSequences();
            x.constant(0, 5);
            Checks.due(text, Workbenches.runText(x, text), SYNTAX);
            Checks.due(text, x.value(0, 0L), 5);
            Checks.due(text, x.dimension(1), EMPTY);
            Checks.due(text, x.errorDepth(), 1);
        }
    }

    @Says(promise = 39, value = "PROGRAM_ERROR if a statement failed.")
    static void runStatementThatFails() {
        RegularSequences x = new RegularSequences();
        x.constant(0, 5);
        Checks.due("the only one", Workbenches.runText(x, "3=m1"), FAILED);
        Checks.due(x.errorPosition(0), 0);
        Checks.due(x.errorPosition(1), 0);
        Checks.due("the last of twenty", Workbenches.runText(x, LONGEST.substring(0, 76) + "3=m9"), FAILED);
        Checks.due(x.errorPosition(0), 76);
        Checks.due(x.errorCode(1), NO_SLOT);
        Checks.due(x.errorPosition(1), 19);
        Checks.due("the first of twenty", Workbenches.runText(x, "4=n;" + LONGEST.substring(4)), FAILED);
        Checks.due(x.errorPosition(0), 0);
        Checks.due(x.errorPosition(1), 0);
        Shape.constant(2, 5).dueIn(x, 0);
        for (int slot = 1; slot < 4; slot++) {
            Checks.due(x.dimension(slot), EMPTY);
        }
    }

    @Says(promise = 39, value = "The buffer is empty afterwards in every case.")
    static void bufferIsEmptyAfterRun() {
        for (String text : new String[] {"", "0=n", "?", "0=n;", "0=m3", LONGEST, "~".repeat(80),
            LONGEST.substring(0, 76) + "4=n"}) {
            RegularSequences x = new RegularSequences();
            Workbenches.runText(x, text);
            Checks.due(text, x.append('1'), 1);
            Workbenches.type(x, "=n");
            Checks.due(text, x.run(), 1);
            Shape.numbers(2).dueIn(x, 1);
            Checks.due("and again", x.run(), SYNTAX);
            Checks.due(x.errorPosition(0), 0);
        }
    }

    @Says(promise = 39, value = "Executes the program in the buffer.")
    static void runWhenAllElseIsFull() {
        RegularSequences x = Refused.full();
        Checks.due(x.run(), 20);
        Shape.numbers(3).dueIn(x, 0);
        Shape.constant(3, 5).dueIn(x, 3);
        Checks.due(x.forgetObservations(), 8);
        Checks.due(x.save(), FULL);
        Checks.due(x.restore(), 3);
    }

    // ---- promises 40 to 42 ----

    @Says(promise = 40, value = {"Returns the length of the error chain of the latest call of run.",
        "Returns 0, 1 or 2."})
    static void errorDepthOfEachRun() {
        RegularSequences x = new RegularSequences();
        Checks.due("no run so far", x.errorDepth(), 0);
        Checks.due(Workbenches.runText(x, "0=m1"), FAILED);
        Checks.due(x.errorDepth(), 2);
        Checks.due("the buffer is empty", x.run(), SYNTAX);
        Checks.due(x.errorDepth(), 1);
        Checks.due(Workbenches.runText(x, "0=n"), 1);
        Checks.due(x.errorDepth(), 0);
        Checks.due(Workbenches.runText(x, "0=n;"), SYNTAX);
        Checks.due(x.errorDepth(), 1);
        Checks.due(Workbenches.runText(x, "9=9"), FAILED);
        Checks.due(x.errorDepth(), 2);
        Checks.due(Workbenches.runText(x, LONGEST), 20);
        Checks.due(x.errorDepth(), 0);
    }

    private interface LevelQuestion {
        int ask(RegularSequences x, int level);
    }

    /** After no run, a run that succeeds, a text that is no program and a statement that fails. */
    private static void dueOfLevels(LevelQuestion question, int ofSyntaxError, int ofFailure, int ofStatement) {
        String[] texts = {null, "3=k8", "3=k8;", "3=k8;3=t02"};
        int[][] want = {{NONE, NONE}, {NONE, NONE}, {ofSyntaxError, NONE}, {ofFailure, ofStatement}};
        for (int k = 0; k < texts.length; k++) {
            RegularSequences x = new RegularSequences();
            x.numbers(0);
            if (texts[k] != null) {
                Workbenches.runText(x, texts[k]);
            }
            Checks.due(texts[k] + ", level 0", question.ask(x, 0), want[k][0]);
            Checks.due(texts[k] + ", level 1", question.ask(x, 1), want[k][1]);
            for (int level : Edges.outside(0, 1)) {
                Checks.due(texts[k] + ", level " + level, question.ask(x, level), NONE);
            }
            Checks.due(texts[k] + ", level 0 again", question.ask(x, 0), want[k][0]);
        }
        for (int level : Edges.outside(0, 1)) {
            Refused.due("level " + level, x -> question.ask(x, level), NONE);
            Refused.dueWhenFull("level " + level, x -> question.ask(x, level), NONE);
        }
    }

    @Says(promise = 41, value = {"Returns the error code at a level of the error chain.",
        "- `level`: the level, starting with 0", "Returns the code, or NONE if there is no such level."})
    static void errorCodeOfEachLevel() {
        dueOfLevels(RegularSequences::errorCode, SYNTAX, FAILED, BAD);
    }

    @Says(promise = 42, value = {"Returns the position at a level of the error chain.",
        "- `level`: the level, starting with 0",
        "Returns the position, or NONE if there is no such level."})
    static void errorPositionOfEachLevel() {
        dueOfLevels(RegularSequences::errorPosition, 5, 5, 1);
    }

    // ---- promises 43 and 44 ----

    @Says(promise = 43, value = {"BUFFER_FULL if there are already 4.",
        "Returns the number of saved states after the call"})
    static void saveFiveTimes() {
        RegularSequences x = new RegularSequences();
        for (int count = 1; count <= 4; count++) {
            x.constant(0, count);
            Checks.due(x.save(), count);
            Checks.due("save changes no slot", x.value(0, 0L), count);
        }
        x.setBase(4);
        x.constant(0, 5);
        Checks.due("the fifth", x.save(), FULL);
        Checks.due("the sixth", x.save(), FULL);
        Checks.due(x.value(0, 0L), 5);
        Checks.due("the base stays", x.digitCount(1, 3), 2);
        for (int count = 4; count >= 1; count--) {
            Checks.due(x.restore(), count - 1);
            Checks.due("not the fifth", x.value(0, 0L), count);
            Checks.due(x.dimension(1), EMPTY);
        }
        Refused.dueWhenFull("the fifth", RegularSequences::save, FULL);
    }

    @Says(promise = 43, value = "Pushes a copy of the base and all slots onto the stack of saved states.")
    static void saveEmptySlotsAndLargestOnes() {
        for (int base = 2; base <= 4; base++) {
            RegularSequences x = Edges.sized(base, 8);
            x.define(1, 0);
            Checks.due(x.save(), 1);
            x.setRow(0, 7, 10006);
            x.setColumn(0, 7, 10006);
            x.setEntry(0, base - 1, 7, 7, 10006);
            x.clear(1);
            x.numbers(3);
            Checks.due(x.restore(), 0);
            Shape want = Shape.random(base, 8, 4711);
            Checks.due(x.row(0, 7), want.row[7]);
            Checks.due(x.column(0, 7), want.column[7]);
            Checks.due(x.entry(0, base - 1, 7, 7), want.matrices[base - 1][7][7]);
            Checks.due(x.dimension(1), 0);
            Checks.due(x.dimension(2), EMPTY);
            Checks.due(x.dimension(3), EMPTY);
            Checks.due(x.setBase(2), base);
        }
    }

    @Says(promise = 44, value = {"NOTHING_SAVED if there is none.",
        "Returns the number of saved states after the call"})
    static void restoreWithNothingSaved() {
        Refused.dueIn(() -> {
            RegularSequences x = Workbenches.withBase(4);
            x.numbers(0);
            x.observe(3, 4);
            Workbenches.runText(x, "1=m1");
            x.append('1');
            return x;
        }, "nothing was saved", RegularSequences::restore, NOTHING);
        RegularSequences x = Refused.full();
        for (int left = 3; left >= 0; left--) {
            Checks.due(x.restore(), left);
        }
        Checks.due("the fifth", x.restore(), NOTHING);
        Checks.due("the sixth", x.restore(), NOTHING);
        Checks.due("the state is that of the fourth", x.value(0, 0L), 100);
        Checks.due("its base too", x.setBase(2), 3);
        Checks.due("there is room again", x.save(), 1);
        Checks.due(x.restore(), 0);
        Checks.due(x.restore(), NOTHING);
    }

    @Says(promise = 44, value = "Removes the latest saved state from the stack and makes it the current state.")
    static void restoreTheLatest() {
        RegularSequences x = new RegularSequences();
        for (int round = 0; round < 3; round++) {
            for (int count = 1; count <= 4; count++) {
                x.setBase(2 + count % 3);
                x.constant(count - 1, 10 * round + count);
                Checks.due(x.save(), count);
            }
            for (int count = 4; count >= 1; count--) {
                x.setBase(2);
                x.numbers(count - 1);
                Checks.due(x.restore(), count - 1);
                Checks.due(x.value(count - 1, 5L), 10 * round + count);
                Checks.due(x.digitCount(count % 4, 1 + count % 3), 2);
                Checks.due(x.digitCount(count % 4, 2 + count % 3), BAD);
            }
        }
    }

    @Says(promise = 44, value = "makes it the current state.")
    static void restoreFromFull() {
        RegularSequences x = Refused.full();
        Checks.due(x.restore(), 3);
        Checks.due("the observations stay", x.observe(1L, 1), FULL);
        Checks.due("the buffer stays", x.append('1'), FULL);
        Checks.due("the error chain stays", x.errorDepth(), 1);
        Checks.due(x.value(3, 0L), 400);
        Checks.due("there is room again", x.save(), 4);
        Checks.due(x.save(), FULL);
        Checks.due(x.run(), 20);
        Shape.numbers(3).dueIn(x, 0);
    }
}
