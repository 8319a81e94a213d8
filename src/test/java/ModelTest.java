/**
 * Runs of up to 512 calls with arguments without a pattern, right ones and wrong ones, each answer
 * held against that of the naive workbench.
 */
public final class ModelTest {
    private static final int RUNS = 1200;
    private static final int CALLS = 512;

    private final Dice dice;
    private final RegularSequences real = new RegularSequences();
    private final NaiveWorkbench model = new NaiveWorkbench();
    private final String run;
    private int calls = 0;
    private final int sizeLimit;

    private ModelTest(int number) {
        dice = new Dice(number);
        run = "run " + number;
        sizeLimit = number % 3 == 0 ? 8 : 3;
    }

    public static void main(String[] args) {
        for (int number = 0; number < RUNS; number++) {
            new ModelTest(number).play();
        }
        Checks.finish();
    }

    private void play() {
        while (calls < CALLS - 200) {
            int kind = dice.below(100);
            if (kind < 8) {
                build();
            } else if (kind < 35) {
                make();
            } else if (kind < 50) {
                combine();
            } else if (kind < 72) {
                ask();
            } else if (kind < 80) {
                observe();
            } else if (kind < 90) {
                program();
            } else if (kind < 96) {
                save();
            } else {
                dump();
            }
        }
        for (int slot = 0; slot < 4 && calls < CALLS - 200; slot++) {
            dump(slot);
        }
    }

    private void due(String call, long got, long want) {
        calls++;
        if (want != NaiveWorkbench.UNKNOWN) {
            Checks.due(run + ", call " + calls + ": " + call, got, want);
        }
    }

    private int slot() {
        return dice.oneIn(30) ? dice.below(8) - 2 : dice.below(4);
    }

    private int digit() {
        return dice.oneIn(20) ? dice.below(7) - 1 : dice.below(model.base());
    }

    private int index(int slot) {
        int size = slot >= 0 && slot < 4 ? model.sizeOf(slot) : -1;
        return size <= 0 || dice.oneIn(15) ? dice.below(11) - 1 : dice.below(size);
    }

    private int residue() {
        switch (dice.below(8)) {
            case 0:
                return 10006;
            case 1:
                return dice.oneIn(4) ? 10007 + dice.below(3) : 10005;
            case 2:
                return dice.oneIn(4) ? -1 - dice.below(3) : 1;
            case 3:
                return dice.below(10007);
            default:
                return dice.below(3);
        }
    }

    private long number() {
        switch (dice.below(5)) {
            case 0:
                return dice.next();
            case 1:
                return dice.next() >>> (1 + dice.below(60));
            default:
                return dice.below(dice.oneIn(2) ? 70 : 5000);
        }
    }

    private int size() {
        return dice.oneIn(20) ? dice.below(12) - 2 : dice.below(sizeLimit + 1);
    }

    private void build() {
        int slot = slot();
        int size = size();
        due("define", real.define(slot, size), model.define(slot, size));
        for (int k = dice.below(12); k > 0; k--) {
            int i = index(slot);
            int j = index(slot);
            int v = residue();
            int d = digit();
            switch (dice.below(4)) {
                case 0:
                    due("setRow", real.setRow(slot, i, v), model.setRow(slot, i, v));
                    break;
                case 1:
                    due("setColumn", real.setColumn(slot, i, v), model.setColumn(slot, i, v));
                    break;
                default:
                    due("setEntry", real.setEntry(slot, d, i, j, v), model.setEntry(slot, d, i, j, v));
                    break;
            }
        }
    }

    private void make() {
        int dest = slot();
        int d = digit();
        int v = residue();
        int size = size();
        int seed = (int) dice.next();
        switch (dice.below(9)) {
            case 0:
                due("constant", real.constant(dest, v), model.constant(dest, v));
                break;
            case 1:
            case 2:
                due("digitCount", real.digitCount(dest, d), model.digitCount(dest, d));
                break;
            case 3:
                due("numbers", real.numbers(dest), model.numbers(dest));
                break;
            case 4:
                due("randomize", real.randomize(dest, size, seed), model.randomize(dest, size, seed));
                break;
            case 5:
                due("minimize", real.minimize(dest, dest), model.minimize(dest, dest));
                break;
            case 6:
                due("setRow", real.setRow(dest, 0, v), model.setRow(dest, 0, v));
                break;
            case 7:
                if (dice.oneIn(3)) {
                    due("clear", real.clear(dest), model.clear(dest));
                }
                break;
            default:
                if (dice.oneIn(4)) {
                    int b = dice.oneIn(3) ? dice.below(9) - 2 : 2 + dice.below(3);
                    due("setBase", real.setBase(b), model.setBase(b));
                }
                break;
        }
    }

    private void combine() {
        int dest = slot();
        int a = slot();
        int b = slot();
        int d = digit();
        int v = residue();
        switch (dice.below(9)) {
            case 0:
                due("copy", real.copy(dest, a), model.copy(dest, a));
                break;
            case 1:
                due("add", real.add(dest, a, b), model.add(dest, a, b));
                break;
            case 2:
                due("subtract", real.subtract(dest, a, b), model.subtract(dest, a, b));
                break;
            case 3:
                due("multiply", real.multiply(dest, a, b), model.multiply(dest, a, b));
                break;
            case 4:
                due("scale", real.scale(dest, a, v), model.scale(dest, a, v));
                break;
            case 5:
                due("trailingSection", real.trailingSection(dest, a, d), model.trailingSection(dest, a, d));
                break;
            case 6:
                due("leadingSection", real.leadingSection(dest, a, d), model.leadingSection(dest, a, d));
                break;
            case 7:
                due("reverse", real.reverse(dest, a), model.reverse(dest, a));
                break;
            default:
                due("minimize", real.minimize(dest, a), model.minimize(dest, a));
                break;
        }
    }

    private void ask() {
        int a = slot();
        int b = slot();
        long n = number();
        int length = dice.oneIn(12) ? dice.below(30) - 4 : dice.below(5);
        switch (dice.below(12)) {
            case 0:
            case 1:
                due("value", real.value(a, n), model.value(a, n));
                break;
            case 2:
                int padded = dice.below(24) - 1;
                due("paddedValue", real.paddedValue(a, n, padded), model.paddedValue(a, n, padded));
                break;
            case 3:
                int sum = dice.oneIn(3) ? dice.below(900) : length;
                due("sumOfLength", real.sumOfLength(a, sum), model.sumOfLength(a, sum));
                break;
            case 4:
                due("countZeros", real.countZeros(a, length), model.countZeros(a, length));
                break;
            case 5:
                due("firstZero", real.firstZero(a), model.firstZero(a));
                break;
            case 6:
                due("minimalDimension", real.minimalDimension(a), model.minimalDimension(a));
                break;
            case 7:
                due("hankelRank", real.hankelRank(a, length), model.hankelRank(a, length));
                break;
            case 8:
                due("areEqual", real.areEqual(a, b), model.areEqual(a, b));
                break;
            case 9:
                due("firstDifference", real.firstDifference(a, b, 0), model.firstDifference(a, b, 0));
                due("firstDifference", real.firstDifference(a, b, 1), model.firstDifference(a, b, 1));
                break;
            case 10:
                int what = dice.below(5) - 2;
                due("firstDifference", real.firstDifference(a, b, what), model.firstDifference(a, b, what));
                break;
            default:
                due("ignoresLeadingZeros", real.ignoresLeadingZeros(a), model.ignoresLeadingZeros(a));
                break;
        }
    }

    private void observe() {
        int slot = slot();
        long n = number();
        int v = residue();
        switch (dice.below(6)) {
            case 0:
                if (dice.oneIn(6)) {
                    due("forgetObservations", real.forgetObservations(), model.forgetObservations());
                }
                break;
            case 1:
                due("observe", real.observe(n, v), model.observe(n, v));
                break;
            case 2:
            case 3:
                int right = (int) Math.max(-1, model.value(slot, n));
                due("observe", real.observe(n, right), model.observe(n, right));
                break;
            default:
                due("firstMismatch", real.firstMismatch(slot), model.firstMismatch(slot));
                break;
        }
    }

    private void program() {
        if (dice.oneIn(10)) {
            int ch = dice.below(140) - 5;
            due("append", real.append(ch), model.append(ch));
        }
        StringBuilder text = new StringBuilder();
        for (int k = dice.oneIn(15) ? 25 : 1 + dice.below(4); k > 0; k--) {
            text.append(text.length() == 0 ? "" : ";").append(statement());
        }
        if (dice.oneIn(3)) {
            spoil(text);
        }
        for (int k = 0; k < text.length() && k < 90; k++) {
            int ch = text.charAt(k);
            due("append", real.append(ch), model.append(ch));
        }
        due("run of " + text, real.run(), model.run());
        due("errorDepth", real.errorDepth(), model.errorDepth());
        for (int level = -1; level <= 2; level++) {
            due("errorCode", real.errorCode(level), model.errorCode(level));
            due("errorPosition after " + text, real.errorPosition(level), model.errorPosition(level));
        }
    }

    private String statement() {
        String dest = (dice.oneIn(40) ? dice.below(10) : dice.below(4)) + "=";
        int a = dice.oneIn(40) ? dice.below(10) : dice.below(4);
        int b = dice.oneIn(40) ? dice.below(10) : dice.below(4);
        int d = dice.oneIn(20) ? dice.below(10) : dice.below(model.base());
        switch (dice.below(9)) {
            case 0:
                return dest + a;
            case 1:
                return dest + a + "+-*".charAt(dice.below(3)) + b;
            case 2:
                return dest + "m" + a;
            case 3:
                return dest + "r" + a;
            case 4:
                return dest + "t" + a + d;
            case 5:
                return dest + "l" + a + d;
            case 6:
                return dest + "k" + (dice.oneIn(10) ? 10000 + dice.below(12) : dice.below(1000));
            case 7:
                return dest + "c" + d;
            default:
                return dest + "n";
        }
    }

    private void spoil(StringBuilder text) {
        String signs = "0123456789=;+-*mrtlkcn x/:<>";
        int at = dice.below(text.length());
        char sign = signs.charAt(dice.below(signs.length()));
        switch (dice.below(4)) {
            case 0:
                text.setCharAt(at, sign);
                break;
            case 1:
                text.insert(at, sign);
                break;
            case 2:
                text.deleteCharAt(at);
                break;
            default:
                text.setLength(at);
                break;
        }
    }

    private void save() {
        if (dice.oneIn(2)) {
            due("save", real.save(), model.save());
        } else {
            due("restore", real.restore(), model.restore());
        }
    }

    private void dump() {
        dump(slot());
    }

    /** All that can be seen of a slot; of a large one the vectors and some entries. */
    private void dump(int slot) {
        due("dimension", real.dimension(slot), model.dimension(slot));
        int size = slot < 0 || slot > 3 ? 0 : Math.max(0, model.sizeOf(slot));
        for (int i = 0; i < size; i++) {
            due("row", real.row(slot, i), model.row(slot, i));
            due("column", real.column(slot, i), model.column(slot, i));
        }
        boolean all = size <= 3;
        for (int k = 0; k < (all ? model.base() * size * size : 12); k++) {
            int d = all ? k / (size * size) : digit();
            int i = all ? k / size % size : index(slot);
            int j = all ? k % size : index(slot);
            due("entry", real.entry(slot, d, i, j), model.entry(slot, d, i, j));
        }
    }
}
