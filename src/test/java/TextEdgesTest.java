/** What the description says of programs and of their errors: a test for each sentence that names an edge. */
public final class TextEdgesTest {
    private static final int NO_SLOT = RegularSequences.NO_SUCH_SLOT;
    private static final int EMPTY = RegularSequences.EMPTY_SLOT;
    private static final int BAD = RegularSequences.BAD_ARGUMENT;
    private static final int LIMIT = RegularSequences.DIMENSION_LIMIT;
    private static final int SYNTAX = RegularSequences.SYNTAX_ERROR;
    private static final int FAILED = RegularSequences.PROGRAM_ERROR;
    private static final int NONE = RegularSequences.NONE;

    public static void main(String[] args) throws ReflectiveOperationException {
        Sentences.runAll(TextEdgesTest.class);
    }

    // ---- programs ----

    private static void dueSyntaxError(String text, int position) {
        RegularSequences x = new RegularSequences();
        x.numbers(0);
        Checks.due(text, Workbenches.runText(x, text), SYNTAX);
        Checks.due(text, x.errorDepth(), 1);
        Checks.due(text, x.errorCode(0), SYNTAX);
        Checks.due(text, x.errorPosition(0), position);
        Checks.due(text, x.errorCode(1), NONE);
        Shape.numbers(2).dueIn(x, 0);
        Checks.due(text, x.dimension(3), EMPTY);
    }

    private static void dueRun(String text, int statements) {
        RegularSequences x = new RegularSequences();
        x.numbers(0);
        Checks.due(text, Workbenches.runText(x, text), statements);
        Checks.due(text, x.errorDepth(), 0);
    }

    /** Slot 0 holds the numbers, so its dimension is 2; the other slots are empty. */
    private static void dueFailure(String text, int position, int code, int before) {
        RegularSequences x = new RegularSequences();
        x.numbers(0);
        Checks.due(text, Workbenches.runText(x, text), FAILED);
        Checks.due(text, x.errorDepth(), 2);
        Checks.due(text, x.errorCode(0), FAILED);
        Checks.due(text, x.errorPosition(0), position);
        Checks.due(text, x.errorCode(1), code);
        Checks.due(text, x.errorPosition(1), before);
        Shape.numbers(2).dueIn(x, 0);
        for (int slot = 1; slot < 4; slot++) {
            Checks.due(text, x.dimension(slot), EMPTY);
        }
    }

    @Says(promise = 0, value = "A program is a text in the buffer. "
            + "It consists of one or more statements, with a semicolon between two statements and no other separators.")
    static void statementsAndSeparators() {
        dueSyntaxError("", 0);
        dueSyntaxError(";", 0);
        dueSyntaxError(" ", 0);
        dueRun("3=n", 1);
        dueRun("3=n;3=0", 2);
        dueSyntaxError(";3=n", 0);
        dueSyntaxError("3=n;", 4);
        dueSyntaxError("3=n;;3=n", 4);
        dueSyntaxError("3=n ;3=n", 3);
        dueSyntaxError("3=n; 3=n", 4);
        dueSyntaxError("3=n 3=n", 3);
        dueSyntaxError("3=n,3=n", 3);
        dueSyntaxError("3=n:3=n", 3);
        dueSyntaxError("3=n3=n", 3);
        dueSyntaxError("3 =n", 1);
        dueSyntaxError("3= n", 2);
    }

    @Says(promise = 0, value = "A statement is a destination slot (one decimal digit 0 to 9; "
            + "one that is no slot is an error of the statement, not of the text), the character =, and an expression.")
    static void destinationsZeroToNine() {
        for (int dest = 0; dest <= 3; dest++) {
            dueRun(dest + "=n", 1);
        }
        for (int dest = 4; dest <= 9; dest++) {
            dueFailure(dest + "=n", 0, NO_SLOT, 0);
            dueFailure("3=n;" + dest + "=n", 4, NO_SLOT, 1);
        }
        dueSyntaxError("/=n", 0);
        dueSyntaxError(":=n", 0);
        dueSyntaxError("10=n", 1);
        dueSyntaxError("-1=n", 0);
        dueSyntaxError("3", 1);
        dueSyntaxError("3<n", 1);
        dueSyntaxError("3>n", 1);
        dueSyntaxError("3=", 2);
    }

    @Says(promise = 0, value = {
        "A (one decimal digit: copy of slot A); "
            + "A+B, A-B or A*B (sum, difference or product of slots A and B)",
        "mA (slot A minimized); rA (slot A reversed)"})
    static void operandsZeroToNine() {
        for (String form : new String[] {"3=@", "3=@+0", "3=0+@", "3=@-0", "3=0-@", "3=@*0", "3=0*@", "3=m@", "3=r@"}) {
            int at = form.indexOf('@');
            dueRun(form.replace('@', '0'), 1);
            dueFailure(form.replace('@', '1'), 0, EMPTY, 0);
            dueFailure(form.replace('@', '3'), 0, EMPTY, 0);
            dueFailure(form.replace('@', '4'), 0, NO_SLOT, 0);
            dueFailure(form.replace('@', '9'), 0, NO_SLOT, 0);
            dueSyntaxError(form.replace('@', '/'), at);
            dueSyntaxError(form.replace('@', ':'), at);
            dueSyntaxError(form.substring(0, at), at);
        }
        for (char sign : new char[] {')', ',', '.', '/'}) {
            dueSyntaxError("3=0" + sign + "0", 3);
        }
        dueSyntaxError("3=00", 3);
        dueSyntaxError("3=m00", 4);
        dueSyntaxError("3=0+00", 5);
    }

    @Says(promise = 0, value = {"tAd or lAd (trailing or leading section of slot A by the digit d, one decimal digit)",
        "cd (the digit count sequence of the digit d, one decimal digit); n (the number sequence)"})
    static void digitsZeroToNine() {
        for (String form : new String[] {"3=t0@", "3=l0@", "3=c@"}) {
            int at = form.indexOf('@');
            dueRun(form.replace('@', '0'), 1);
            dueRun(form.replace('@', '1'), 1);
            dueFailure(form.replace('@', '2'), 0, BAD, 0);
            dueFailure(form.replace('@', '9'), 0, BAD, 0);
            dueSyntaxError(form.replace('@', '/'), at);
            dueSyntaxError(form.replace('@', ':'), at);
            dueSyntaxError(form.replace('@', '-') + "1", at);
            dueSyntaxError(form.substring(0, at), at);
            dueSyntaxError(form.replace('@', '0') + "0", at + 1);
        }
        for (char head : new char[] {'t', 'l'}) {
            dueFailure("3=" + head + "10", 0, EMPTY, 0);
            dueFailure("3=" + head + "19", 0, EMPTY, 0);
            dueFailure("3=" + head + "40", 0, NO_SLOT, 0);
            dueFailure("3=" + head + "99", 0, NO_SLOT, 0);
            dueSyntaxError("3=" + head, 3);
            dueSyntaxError("3=" + head + "/0", 3);
            dueSyntaxError("3=" + head + ":0", 3);
        }
        dueRun("3=n", 1);
        dueSyntaxError("3=n0", 3);
    }

    @Says(promise = 0, value = "kN (the constant sequence with value N, one to five decimal digits)")
    static void constantsOfOneToFiveDigits() {
        dueSyntaxError("3=k", 3);
        dueSyntaxError("3=k;3=n", 3);
        dueSyntaxError("3=k-1", 3);
        dueSyntaxError("3=k/", 3);
        dueSyntaxError("3=k:", 3);
        dueSyntaxError("3=k00000/", 8);
        dueSyntaxError("3=k100060", 8);
        dueSyntaxError("3=k000000", 8);
        String[] texts = {"0", "9", "10", "99", "100", "999", "1000", "9999", "10000", "10006", "00000", "00009",
            "01000"};
        for (String text : texts) {
            RegularSequences x = new RegularSequences();
            Checks.due(text, Workbenches.runText(x, "3=k" + text), 1);
            Checks.due(text, x.value(3, 1L), Integer.parseInt(text));
        }
        dueFailure("3=k10007", 0, BAD, 0);
        dueFailure("3=k10008", 0, BAD, 0);
        dueFailure("3=k99999", 0, BAD, 0);
    }

    @Says(promise = 0, value = "A statement has the same effect and the same error conditions "
            + "as the corresponding method.")
    static void statementsWithSeveralFaults() {
        dueFailure("4=1", 0, NO_SLOT, 0);
        dueFailure("4=m1", 0, NO_SLOT, 0);
        dueFailure("4=1+1", 0, NO_SLOT, 0);
        dueFailure("3=4-1", 0, NO_SLOT, 0);
        dueFailure("3=1*4", 0, NO_SLOT, 0);
        dueFailure("3=t49", 0, NO_SLOT, 0);
        dueFailure("4=l09", 0, NO_SLOT, 0);
        dueFailure("3=l19", 0, EMPTY, 0);
        dueFailure("4=k99999", 0, NO_SLOT, 0);
        dueFailure("4=c9", 0, NO_SLOT, 0);
        dueFailure("3=0*0;3=3*3", 6, LIMIT, 1);
        dueFailure("3=0*0;2=3+3;2=2+1", 12, EMPTY, 2);
        dueFailure("3=0+0;3=3+3;3=3-0", 12, LIMIT, 2);
    }

    // ---- program errors ----

    @Says(promise = 0, value = "The error position of a syntax error is the index of the first character "
            + "such that no program begins with the text up to and including that character")
    static void errorPositionAtFirstAndLastCharacter() {
        dueSyntaxError("?=n;3=n", 0);
        dueSyntaxError("3=n;3=n;?", 8);
        dueSyntaxError("3=n;?=?", 4);
        String longest = "3=n;".repeat(19) + "3=";
        dueSyntaxError(longest + "k?", 79);
        dueSyntaxError(longest + "n?", 79);
        dueSyntaxError("?".repeat(80), 0);
    }

    @Says(promise = 0, value = "if there is no such character, the text ends too early, "
            + "and the error position is the length of the text.")
    static void errorPositionBehindTheText() {
        dueSyntaxError("", 0);
        String[] beginnings = {"3", "3=", "3=0+", "3=0-", "3=0*", "3=m", "3=r", "3=t", "3=t0", "3=l", "3=l0", "3=k",
            "3=c", "3=n;", "3=0;", "3=k12345;", "3=n;3"};
        for (String text : beginnings) {
            dueSyntaxError(text, text.length());
        }
        dueSyntaxError("3=n;".repeat(19) + "3=k", 79);
        dueSyntaxError("3=n;".repeat(19) + "3=0+", 80);
    }

    @Says(promise = 0, value = "A program with a syntax error executes nothing.")
    static void syntaxErrorBehindStatements() {
        dueSyntaxError("0=k5;3=n;", 9);
        dueSyntaxError("0=k5;3=n;?", 9);
        dueSyntaxError("0=k5;3=n;3=k123456", 17);
        dueSyntaxError("9=n;0=k5;3=m", 12);
    }

    @Says(promise = 0, value = {
        "If a statement fails, no later statement is executed and all slots are as they were before the program.",
        "Level 0 has the code SYNTAX_ERROR and the error position, "
            + "or the code PROGRAM_ERROR and the index of the first character of the failed statement.",
        "Level 1 has the error code of the statement and, as its position, "
            + "the number of statements executed before it."})
    static void firstAndLastStatementFails() {
        dueFailure("3=m1;0=k5", 0, EMPTY, 0);
        dueFailure("0=k5;3=n;2=3;1=m0;3=m9", 18, NO_SLOT, 4);
        dueFailure("0=k12345", 0, BAD, 0);
        dueFailure("0=k5;0=k12345", 5, BAD, 1);
        dueFailure("3=n;".repeat(19) + "3=m9", 76, NO_SLOT, 19);
        dueFailure("0=0-0;0=m0;1=m2", 11, EMPTY, 2);
    }

    @Says(promise = 0, value = {"The error chain describes the latest call of run: "
            + "it is empty if that call succeeded or if run has not been called;",
        "it has length 1 after a syntax error and length 2 after a failed statement."})
    static void errorChainOfTheLatestRun() {
        RegularSequences x = new RegularSequences();
        dueChain(x, 0, NONE, NONE, NONE, NONE);
        Workbenches.runText(x, "0=m1");
        dueChain(x, 2, FAILED, 0, EMPTY, 0);
        Workbenches.runText(x, "0=n");
        dueChain(x, 0, NONE, NONE, NONE, NONE);
        Workbenches.runText(x, "0=n;1=n;1=m9");
        dueChain(x, 2, FAILED, 8, NO_SLOT, 2);
        Checks.due("other calls leave it", x.value(9, 1L), NO_SLOT);
        x.append('?');
        x.save();
        x.restore();
        x.setBase(3);
        dueChain(x, 2, FAILED, 8, NO_SLOT, 2);
        x.run();
        dueChain(x, 1, SYNTAX, 0, NONE, NONE);
        x.run();
        dueChain(x, 1, SYNTAX, 0, NONE, NONE);
        Workbenches.runText(x, "0=n");
        dueChain(x, 0, NONE, NONE, NONE, NONE);
    }

    private static void dueChain(RegularSequences x, int depth, int code, int position, int inner, int innerPosition) {
        Checks.due(x.errorDepth(), depth);
        Checks.due(x.errorCode(0), code);
        Checks.due(x.errorPosition(0), position);
        Checks.due(x.errorCode(1), inner);
        Checks.due(x.errorPosition(1), innerPosition);
        Checks.due(x.errorCode(2), NONE);
        Checks.due(x.errorPosition(2), NONE);
    }
}
