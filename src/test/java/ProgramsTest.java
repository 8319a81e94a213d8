/** Promises 38 to 42: the buffer, programs and the error chain. */
public final class ProgramsTest {
    private static final int NO_SLOT = RegularSequences.NO_SUCH_SLOT;
    private static final int EMPTY = RegularSequences.EMPTY_SLOT;
    private static final int BAD = RegularSequences.BAD_ARGUMENT;
    private static final int LIMIT = RegularSequences.DIMENSION_LIMIT;
    private static final int FULL = RegularSequences.BUFFER_FULL;
    private static final int SYNTAX = RegularSequences.SYNTAX_ERROR;
    private static final int FAILED = RegularSequences.PROGRAM_ERROR;
    private static final int NONE = RegularSequences.NONE;

    private static final Shape NUMBERS = Shape.numbers(2);
    private static final Shape ONES = Shape.digitCount(2, 1);

    public static void main(String[] args) {
        promise38Append();
        promise38AppendBehindTheRest();
        promise38AppendToFullBuffer();
        promise39EachExpression();
        promise39Constants();
        promise39StatementsInOrder();
        promise39MostStatements();
        promise39SyntaxErrors();
        promise39SyntaxErrorExecutesNothing();
        promise39FailedStatements();
        promise39FailureUndoesEverything();
        promise39BufferIsEmptyAfterwards();
        promise39KnowsTheBase();
        promises40To42ErrorChain();
        promises40To42NoSuchLevel();
        Checks.finish();
    }

    private static void promise38Append() {
        RegularSequences x = new RegularSequences();
        for (int bad : new int[] {31, 127, 0, -1, 10, 128, 255, 65536 + 48, Integer.MIN_VALUE, Integer.MAX_VALUE}) {
            Checks.due(x.append(bad), BAD);
        }
        Checks.due(x.append(32), 1);
        Checks.due(x.append(126), 2);
        Checks.due(x.append(31), BAD);
        Checks.due(x.append('0'), 3);
        x = new RegularSequences();
        for (int ch = 32; ch <= 111; ch++) {
            Checks.due(x.append(ch), ch - 31);
        }
        x = new RegularSequences();
        for (int ch = 112; ch <= 126; ch++) {
            Checks.due(x.append(ch), ch - 111);
        }
    }

    @Says(promise = 38, value = "Appends one character to the buffer.")
    private static void promise38AppendBehindTheRest() {
        RegularSequences x = new RegularSequences();
        for (char ch : "3=k1234;0=c1".toCharArray()) {
            x.append(ch);
            Checks.due("no character", x.append(10), BAD);
        }
        Checks.due(x.run(), 2);
        Shape.constant(2, 1234).dueIn(x, 3);
        ONES.dueIn(x, 0);
        Checks.due("the same characters in another order", Workbenches.runText(x, "3k=1234;0=c1"), SYNTAX);
        Checks.due(x.errorPosition(0), 1);
    }

    private static void promise38AppendToFullBuffer() {
        RegularSequences x = new RegularSequences();
        for (int k = 1; k <= 80; k++) {
            Checks.due(x.append("0=n;".charAt((k - 1) % 4)), k);
        }
        Checks.due(x.append('0'), FULL);
        Checks.due(x.append('0'), FULL);
        Checks.due("arguments are checked first", x.append(31), BAD);
        Checks.due(x.append(127), BAD);
        Checks.due(x.run(), SYNTAX);
        Checks.due("what did not fit is not there", x.errorPosition(0), 80);
        Checks.due(x.append('0'), 1);
    }

    @Says(promise = 0, value = "An expression is one of: A (one decimal digit: copy of slot A); A+B, A-B or A*B "
            + "(sum, difference or product of slots A and B); mA (slot A minimized); rA (slot A "
            + "reversed); tAd or lAd (trailing or leading section of slot A by the digit d, one "
            + "decimal digit); kN (the constant sequence with value N, one to five decimal "
            + "digits); cd (the digit count sequence of the digit d, one decimal digit); n (the "
            + "number sequence).")
    private static void promise39EachExpression() {
        dueResult("3=1", ONES);
        dueResult("3=2", Shape.of(Workbenches.ROW_THREE, Workbenches.MATRICES_THREE, Workbenches.COLUMN_THREE));
        Shape three = Shape.of(Workbenches.ROW_THREE, Workbenches.MATRICES_THREE, Workbenches.COLUMN_THREE);
        dueResult("3=0+1", Shape.sum(NUMBERS, ONES));
        dueResult("3=1+2", Shape.sum(ONES, three));
        dueResult("3=2-0", Shape.difference(three, NUMBERS));
        dueResult("3=0-2", Shape.difference(NUMBERS, three));
        dueResult("3=0*2", Shape.product(NUMBERS, three));
        dueResult("3=2*1", Shape.product(three, ONES));
        dueResult("3=m2", three.minimized());
        dueResult("3=r2", three.reversed());
        dueResult("3=t20", three.trailing(0));
        dueResult("3=t21", three.trailing(1));
        dueResult("3=l20", three.leading(0));
        dueResult("3=l21", three.leading(1));
        dueResult("3=l01", NUMBERS.leading(1));
        dueResult("3=k1", Shape.constant(2, 1));
        dueResult("3=c0", Shape.digitCount(2, 0));
        dueResult("3=c1", Shape.digitCount(2, 1));
        dueResult("3=n", NUMBERS);
    }

    /** Slot 0 holds the numbers, slot 1 the count of ones, slot 2 one of dimension 3. */
    private static RegularSequences filled() {
        RegularSequences x = new RegularSequences();
        x.numbers(0);
        x.digitCount(1, 1);
        Workbenches.buildThree(x, 2);
        return x;
    }

    private static void dueResult(String program, Shape want) {
        RegularSequences x = filled();
        Checks.due(program, Workbenches.runText(x, program), 1);
        want.dueIn(x, 3);
        NUMBERS.dueIn(x, 0);
        ONES.dueIn(x, 1);
        Checks.due(program, x.errorDepth(), 0);
        for (int dest = 0; dest < 3; dest++) {
            String other = dest + program.substring(1);
            x = filled();
            Checks.due(other, Workbenches.runText(x, other), 1);
            want.dueIn(x, dest);
            Checks.due(other, x.dimension(3), EMPTY);
        }
    }

    private static void promise39Constants() {
        String[] texts = {"0", "7", "10", "123", "9999", "10006", "00007", "00000", "01234"};
        for (String text : texts) {
            RegularSequences x = new RegularSequences();
            Checks.due(text, Workbenches.runText(x, "1=k" + text), 1);
            Shape.constant(2, Integer.parseInt(text)).dueIn(x, 1);
        }
        for (String text : new String[] {"10007", "10008", "99999", "20000"}) {
            RegularSequences x = new RegularSequences();
            Checks.due(text, Workbenches.runText(x, "1=k" + text), FAILED);
            Checks.due(text, x.errorCode(1), BAD);
            Checks.due(text, x.dimension(1), EMPTY);
        }
        RegularSequences x = new RegularSequences();
        Checks.due(Workbenches.runText(x, "0=k12;1=k345;2=k6789;3=k10000"), 4);
        Checks.due(x.value(0, 1), 12);
        Checks.due(x.value(1, 1), 345);
        Checks.due(x.value(2, 1), 6789);
        Checks.due(x.value(3, 1), 10000);
    }

    @Says(promise = 0, value = "Statements are executed in order.")
    private static void promise39StatementsInOrder() {
        RegularSequences x = new RegularSequences();
        Checks.due(Workbenches.runText(x, "0=n;1=c1;2=0+1;2=2*1;3=m2;0=1-1"), 6);
        Shape product = Shape.product(Shape.sum(NUMBERS, ONES), ONES);
        product.dueIn(x, 2);
        product.minimized().dueIn(x, 3);
        Shape.difference(ONES, ONES).dueIn(x, 0);
        Checks.due(Workbenches.runText(x, "0=n;0=0+0;0=0+0"), 3);
        Checks.due(x.dimension(0), 8);
        Checks.due(Workbenches.runText(x, "0=m0;0=k1"), 2);
        Checks.due(x.dimension(0), 1);
        Checks.due("a result of dimension 0 is no failure", Workbenches.runText(x, "0=0-0;1=m0;2=1*0;3=r2"), 4);
        Checks.due(x.dimension(1), 0);
        Checks.due(x.dimension(2), 0);
        Checks.due(x.dimension(3), 0);
        Checks.due(x.errorDepth(), 0);
    }

    private static void promise39MostStatements() {
        RegularSequences x = new RegularSequences();
        StringBuilder text = new StringBuilder("0=n");
        for (int k = 1; k < 20; k++) {
            text.append(';').append(k % 4).append("=n");
        }
        Checks.due(text.length(), 79);
        Checks.due(Workbenches.runText(x, text.toString()), 20);
        Checks.due(x.dimension(3), 2);
        Checks.due("as long as the buffer", Workbenches.runText(x, text.substring(0, 76) + "3=k5"), 20);
        Checks.due(x.value(3, 0), 5);
        Checks.due(Workbenches.runText(x, text.substring(0, 76) + "3=c7"), FAILED);
        Checks.due(x.errorPosition(0), 76);
        Checks.due(x.errorPosition(1), 19);
    }

    private static void promise39SyntaxErrors() {
        Object[][] faults = {
            {"", 0}, {"0", 1}, {"0=", 2}, {";", 0}, {"=", 0}, {"n", 0}, {" 0=n", 0}, {"00", 1}, {"0 =n", 1}, {"0;", 1},
            {"0n", 1}, {"0==", 2}, {"0= n", 2}, {"0=x", 2}, {"0=N", 2}, {"0=M1", 2}, {"0=-1", 2}, {"0=+", 2}, {"0=;", 2},
            {"0=/", 2}, {"0=:", 2}, {"/=n", 0}, {":=n", 0}, {"A=n", 0},
            {"0=nn", 3}, {"0=n1", 3}, {"0=n ", 3}, {"0=n+1", 3}, {"0=n,1=n", 3}, {"0=n:", 3},
            {"0=12", 3}, {"0=1=", 3}, {"0=1/2", 3}, {"0=1 ", 3}, {"0=1n", 3}, {"0=1,", 3}, {"0=1.", 3}, {"0=1)", 3},
            {"0=1+", 4}, {"0=1-", 4}, {"0=1*", 4}, {"0=1+x", 4}, {"0=1+;", 4}, {"0=1+-2", 4}, {"0=1+n", 4}, {"0=1+m2", 4},
            {"0=1+2+3", 5}, {"0=1*2*", 5}, {"0=1-23", 5}, {"0=1+2 ", 5},
            {"0=m", 3}, {"0=mm", 3}, {"0=m;", 3}, {"0=m ", 3}, {"0=m12", 4}, {"0=m1+2", 4}, {"0=mn", 3},
            {"0=r", 3}, {"0=rx", 3}, {"0=r11", 4}, {"0=r1-", 4},
            {"0=t", 3}, {"0=t1", 4}, {"0=t;", 3}, {"0=t1;", 4}, {"0=tx", 3}, {"0=t1x", 4}, {"0=t123", 5}, {"0=t12+", 5},
            {"0=l", 3}, {"0=l1", 4}, {"0=l;", 3}, {"0=l1;", 4}, {"0=lx", 3}, {"0=l1x", 4}, {"0=l123", 5}, {"0=l12-", 5},
            {"0=k", 3}, {"0=k;", 3}, {"0=kx", 3}, {"0=k-1", 3}, {"0=k1+", 4}, {"0=k1k", 4}, {"0=k12x", 5}, {"0=k123 ", 6},
            {"0=k1234n", 7}, {"0=k12345x", 8}, {"0=k123456", 8}, {"0=k000000", 8},
            {"0=c", 3}, {"0=c;", 3}, {"0=cx", 3}, {"0=c11", 4}, {"0=c1+", 4},
            {"0=n;", 4}, {"0=n;;", 4}, {"0=n; 1=n", 4}, {"0=n;n", 4}, {"0=n;1", 5}, {"0=n;1;", 5}, {"0=n;1=", 6},
            {"0=k1;", 5}, {"0=k12345;", 9}, {"0=k12345;0", 10}, {"0=1;", 4}, {"0=1+2;", 6}, {"0=t12;", 6}, {"0=m1;", 5},
            {"0=n;1=k123456;2=n", 12}, {"9=9;9=9;9=9+", 12}, {"0=n;1=m0;2=q", 11}, {"0=~", 2}, {"~", 0},
            {"4=n;5=m6;q", 9}, {"0=m1;0=k99999;;", 14}};
        for (Object[] fault : faults) {
            RegularSequences x = new RegularSequences();
            String text = (String) fault[0];
            Checks.due(text, Workbenches.runText(x, text), SYNTAX);
            Checks.due(text, x.errorPosition(0), (Integer) fault[1]);
            Checks.due(text, x.errorCode(0), SYNTAX);
            Checks.due(text, x.errorDepth(), 1);
            Checks.due(text, x.errorCode(1), NONE);
            Checks.due(text, x.errorPosition(1), NONE);
        }
    }

    private static void promise39SyntaxErrorExecutesNothing() {
        RegularSequences x = filled();
        Checks.due(Workbenches.runText(x, "0=k1;1=k2;3=n;2=n;"), SYNTAX);
        NUMBERS.dueIn(x, 0);
        ONES.dueIn(x, 1);
        Checks.due(x.dimension(3), EMPTY);
        Checks.due("the syntax is checked before the slots", Workbenches.runText(x, "7=m3;?"), SYNTAX);
        Checks.due(x.errorPosition(0), 5);
    }

    private static void promise39FailedStatements() {
        Object[][] failures = {
            {"4=n", NO_SLOT}, {"9=n", NO_SLOT}, {"5=k99999", NO_SLOT}, {"6=c9", NO_SLOT}, {"7=0", NO_SLOT}, {"8=3", NO_SLOT},
            {"0=4", NO_SLOT}, {"0=9", NO_SLOT}, {"0=4+0", NO_SLOT}, {"0=0+4", NO_SLOT}, {"0=3-7", NO_SLOT}, {"4=0*1", NO_SLOT},
            {"0=m4", NO_SLOT}, {"4=m0", NO_SLOT}, {"4=m3", NO_SLOT}, {"0=r5", NO_SLOT}, {"5=r0", NO_SLOT},
            {"0=t40", NO_SLOT}, {"0=t49", NO_SLOT}, {"0=l40", NO_SLOT}, {"4=l00", NO_SLOT}, {"4=t32", NO_SLOT},
            {"0=3", EMPTY}, {"0=3+1", EMPTY}, {"0=1+3", EMPTY}, {"0=3-3", EMPTY}, {"0=3*2", EMPTY}, {"0=m3", EMPTY},
            {"0=r3", EMPTY}, {"0=t30", EMPTY}, {"0=t39", EMPTY}, {"0=l30", EMPTY}, {"0=l32", EMPTY}, {"3=3", EMPTY},
            {"0=k10007", BAD}, {"0=k99999", BAD}, {"0=c2", BAD}, {"0=c9", BAD}, {"0=t02", BAD}, {"0=t09", BAD},
            {"0=l02", BAD}, {"0=l29", BAD},
            {"0=2*2", LIMIT}};
        for (Object[] failure : failures) {
            RegularSequences x = filled();
            String text = (String) failure[0];
            Checks.due(text, Workbenches.runText(x, text), FAILED);
            Checks.due(text, x.errorDepth(), 2);
            Checks.due(text, x.errorCode(0), FAILED);
            Checks.due(text, x.errorPosition(0), 0);
            Checks.due(text, x.errorCode(1), (Integer) failure[1]);
            Checks.due(text, x.errorPosition(1), 0);
            NUMBERS.dueIn(x, 0);
            ONES.dueIn(x, 1);
            Checks.due(text, x.dimension(3), EMPTY);
        }
        dueFailure("0=k1;1=k22;2=k333;3=k4444;9=n;0=n", 26, NO_SLOT, 4);
        dueFailure("3=2+2;3=3+2", 6, LIMIT, 1);
        dueFailure("3=2+2;3=m3;3=3-0;3=3-2;3=3+0", 23, LIMIT, 4);
        dueFailure("3=n;3=k10007", 4, BAD, 1);
        dueFailure("0=k00001;0=0+0;3=t05", 15, BAD, 2);
    }

    private static void dueFailure(String text, int position, int code, int before) {
        RegularSequences x = filled();
        Checks.due(text, Workbenches.runText(x, text), FAILED);
        Checks.due(text, x.errorPosition(0), position);
        Checks.due(text, x.errorCode(1), code);
        Checks.due(text, x.errorPosition(1), before);
        NUMBERS.dueIn(x, 0);
        ONES.dueIn(x, 1);
        Checks.due(text, x.dimension(2), 3);
        Checks.due(text, x.dimension(3), EMPTY);
    }

    private static void promise39FailureUndoesEverything() {
        RegularSequences x = filled();
        Checks.due(Workbenches.runText(x, "3=n;0=k1;1=0;2=r2;2=m2;9=n"), FAILED);
        NUMBERS.dueIn(x, 0);
        ONES.dueIn(x, 1);
        Shape.of(Workbenches.ROW_THREE, Workbenches.MATRICES_THREE, Workbenches.COLUMN_THREE).dueIn(x, 2);
        Checks.due(x.dimension(3), EMPTY);
        Checks.due(x.save(), 1);
        Checks.due(Workbenches.runText(x, "0=k5"), 1);
        Checks.due(Workbenches.runText(x, "0=k6;1=9"), FAILED);
        Checks.due("as before the program, not as before an earlier one", x.value(0, 3), 5);
        Checks.due(x.restore(), 0);
        NUMBERS.dueIn(x, 0);
    }

    private static void promise39BufferIsEmptyAfterwards() {
        RegularSequences x = new RegularSequences();
        Checks.due(Workbenches.runText(x, "0=n"), 1);
        Checks.due(x.run(), SYNTAX);
        Checks.due(x.errorPosition(0), 0);
        Checks.due(Workbenches.runText(x, "0=n;"), SYNTAX);
        Checks.due(x.append('1'), 1);
        Checks.due(x.append('='), 2);
        Checks.due(x.append('m'), 3);
        Checks.due(x.append('2'), 4);
        Checks.due(x.run(), FAILED);
        Checks.due(x.run(), SYNTAX);
        Checks.due(x.errorPosition(0), 0);
        Checks.due(x.append('1'), 1);
        Checks.due(x.run(), SYNTAX);
        Checks.due(x.errorPosition(0), 1);
    }

    private static void promise39KnowsTheBase() {
        RegularSequences x = Workbenches.withBase(4);
        Checks.due(Workbenches.runText(x, "0=n;1=c3;2=t03;3=l13"), 4);
        Shape.numbers(4).dueIn(x, 0);
        Shape.digitCount(4, 3).dueIn(x, 1);
        Shape.numbers(4).trailing(3).dueIn(x, 2);
        Shape.digitCount(4, 3).leading(3).dueIn(x, 3);
        Checks.due(Workbenches.runText(x, "0=c4"), FAILED);
        Checks.due(x.errorCode(1), BAD);
        x = Workbenches.withBase(3);
        Checks.due(Workbenches.runText(x, "0=n;1=c2;2=0+1"), 3);
        Shape.sum(Shape.numbers(3), Shape.digitCount(3, 2)).dueIn(x, 2);
        Checks.due(Workbenches.runText(x, "0=t03"), FAILED);
        Checks.due(x.errorCode(1), BAD);
    }

    private static void promises40To42ErrorChain() {
        RegularSequences x = new RegularSequences();
        dueChain(x, 0, NONE, NONE, NONE, NONE);
        Workbenches.runText(x, "0=n;1");
        dueChain(x, 1, SYNTAX, 5, NONE, NONE);
        Workbenches.runText(x, "0=n;1=k7;1=c2");
        dueChain(x, 2, FAILED, 9, BAD, 2);
        x.append('0');
        x.setBase(3);
        x.numbers(0);
        x.save();
        x.restore();
        x.value(9, 9);
        dueChain(x, 2, FAILED, 9, BAD, 2);
        Workbenches.runText(x, "=q");
        dueChain(x, 1, SYNTAX, 2, NONE, NONE);
        Workbenches.runText(x, "1=0;2=r3");
        dueChain(x, 2, FAILED, 4, EMPTY, 1);
        Workbenches.runText(x, "1=0");
        dueChain(x, 0, NONE, NONE, NONE, NONE);
        Workbenches.runText(x, "1=1+1;1=1+1;1=1+1");
        dueChain(x, 2, FAILED, 12, LIMIT, 2);
        x.run();
        dueChain(x, 1, SYNTAX, 0, NONE, NONE);
    }

    private static void dueChain(RegularSequences x, int depth, int code, int position, int inner, int innerPosition) {
        Checks.due(x.errorDepth(), depth);
        Checks.due(x.errorCode(0), code);
        Checks.due(x.errorPosition(0), position);
        Checks.due(x.errorCode(1), inner);
        Checks.due(x.errorPosition(1), innerPosition);
    }

    private static void promises40To42NoSuchLevel() {
        RegularSequences x = new RegularSequences();
        for (int time = 0; time < 3; time++) {
            for (int level : new int[] {-1, -2, 2, 3, Integer.MIN_VALUE, Integer.MAX_VALUE}) {
                Checks.due(x.errorCode(level), NONE);
                Checks.due(x.errorPosition(level), NONE);
            }
            Workbenches.runText(x, time == 0 ? "0=m1" : "?");
        }
    }
}
