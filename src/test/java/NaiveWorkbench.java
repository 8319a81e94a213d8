import java.util.ArrayDeque;
import java.util.ArrayList;
import java.util.Deque;
import java.util.List;
import java.util.regex.Matcher;
import java.util.regex.Pattern;

/** The document once more, with shapes, lists and patterns: slow, and written apart from the program. */
final class NaiveWorkbench {
    /** What it answers where finding the answer would take too long. */
    static final long UNKNOWN = Long.MIN_VALUE;

    private static final String STATEMENT = "[0-9]=(?:[0-9](?:[-+*][0-9])?|[mrc][0-9]|[tl][0-9][0-9]|k[0-9]{1,5}|n)";
    private static final Pattern PROGRAM = Pattern.compile(STATEMENT + "(?:;" + STATEMENT + ")*");

    private int base = 2;
    private Shape[] slots = new Shape[4];
    private final List<long[]> observations = new ArrayList<>();
    private String text = "";
    private final List<int[]> chain = new ArrayList<>();
    private final Deque<Object[]> saved = new ArrayDeque<>();

    private boolean no(int slot) {
        return slot < 0 || slot > 3;
    }

    private static boolean residue(int v) {
        return v >= 0 && v <= 10006;
    }

    private long look(int slot) {
        return no(slot) ? -1 : slots[slot] == null ? -2 : 0;
    }

    private static boolean in(int i, Shape s) {
        return i >= 0 && i < s.size;
    }

    private long put(int dest, Shape shape) {
        slots[dest] = shape.copied();
        return shape.size;
    }

    int base() {
        return base;
    }

    int sizeOf(int slot) {
        return slots[slot] == null ? -1 : slots[slot].size;
    }

    long setBase(int b) {
        if (b < 2 || b > 4) {
            return -3;
        }
        int old = base;
        base = b;
        slots = new Shape[4];
        return old;
    }

    long define(int slot, int dimension) {
        if (no(slot)) {
            return -1;
        }
        if (dimension < 0 || dimension > 8) {
            return -3;
        }
        slots[slot] = new Shape(base, dimension);
        return 1;
    }

    long clear(int slot) {
        if (no(slot)) {
            return -1;
        }
        int held = slots[slot] == null ? 0 : 1;
        slots[slot] = null;
        return held;
    }

    long setRow(int slot, int i, int v) {
        long old = row(slot, i);
        if (old >= 0 && !residue(v)) {
            return -3;
        }
        if (old >= 0) {
            slots[slot].row[i] = v;
        }
        return old;
    }

    long setColumn(int slot, int i, int v) {
        long old = column(slot, i);
        if (old >= 0 && !residue(v)) {
            return -3;
        }
        if (old >= 0) {
            slots[slot].column[i] = v;
        }
        return old;
    }

    long setEntry(int slot, int digit, int i, int j, int v) {
        long old = entry(slot, digit, i, j);
        if (old >= 0 && !residue(v)) {
            return -3;
        }
        if (old >= 0) {
            slots[slot].matrices[digit][i][j] = v;
        }
        return old;
    }

    long dimension(int slot) {
        return look(slot) < 0 ? look(slot) : slots[slot].size;
    }

    long row(int slot, int i) {
        return look(slot) < 0 ? look(slot) : in(i, slots[slot]) ? slots[slot].row[i] : -3;
    }

    long column(int slot, int i) {
        return look(slot) < 0 ? look(slot) : in(i, slots[slot]) ? slots[slot].column[i] : -3;
    }

    long entry(int slot, int digit, int i, int j) {
        if (look(slot) < 0) {
            return look(slot);
        }
        boolean valid = digit >= 0 && digit < base && in(i, slots[slot]) && in(j, slots[slot]);
        return valid ? slots[slot].matrices[digit][i][j] : -3;
    }

    long value(int slot, long n) {
        if (look(slot) < 0) {
            return look(slot);
        }
        return n < 0 ? -3 : slots[slot].value(Shape.digits(n, base, 0));
    }

    long paddedValue(int slot, long n, int length) {
        if (look(slot) < 0) {
            return look(slot);
        }
        if (n < 0 || length < 0 || length > 20) {
            return -3;
        }
        int[] digits = Shape.digits(n, base, length);
        return digits.length > length ? -3 : slots[slot].value(digits);
    }

    long sumOfLength(int slot, int length) {
        if (look(slot) < 0) {
            return look(slot);
        }
        if (length < 0 || length > 1000000000) {
            return -3;
        }
        if (length > 5000) {
            return UNKNOWN;
        }
        Shape s = slots[slot];
        int[] vector = s.row;
        for (int k = 0; k < length; k++) {
            int[] next = new int[s.size];
            for (int d = 0; d < base; d++) {
                int[] moved = s.step(vector, d);
                for (int i = 0; i < s.size; i++) {
                    next[i] = (next[i] + moved[i]) % 10007;
                }
            }
            vector = next;
        }
        return Shape.dot(vector, s.column);
    }

    long countZeros(int slot, int length) {
        if (look(slot) < 0) {
            return look(slot);
        }
        if (length < 0 || length > 8) {
            return -3;
        }
        return slots[slot].strings(length) > 2500 ? UNKNOWN : slots[slot].zerosOfLength(length);
    }

    long firstZero(int slot) {
        if (look(slot) < 0) {
            return look(slot);
        }
        for (int n = 0; n <= 4095; n++) {
            if (value(slot, n) == 0) {
                return n;
            }
        }
        return -9;
    }

    long copy(int dest, int a) {
        return no(dest) ? -1 : look(a) < 0 ? look(a) : put(dest, slots[a]);
    }

    private long lookTwo(int dest, int a, int b) {
        return no(dest) || no(a) || no(b) ? -1 : slots[a] == null || slots[b] == null ? -2 : 0;
    }

    long add(int dest, int a, int b) {
        if (lookTwo(dest, a, b) < 0) {
            return lookTwo(dest, a, b);
        }
        return slots[a].size + slots[b].size > 8 ? -4 : put(dest, Shape.sum(slots[a], slots[b]));
    }

    long subtract(int dest, int a, int b) {
        if (lookTwo(dest, a, b) < 0) {
            return lookTwo(dest, a, b);
        }
        return slots[a].size + slots[b].size > 8 ? -4 : put(dest, Shape.difference(slots[a], slots[b]));
    }

    long multiply(int dest, int a, int b) {
        if (lookTwo(dest, a, b) < 0) {
            return lookTwo(dest, a, b);
        }
        return slots[a].size * slots[b].size > 8 ? -4 : put(dest, Shape.product(slots[a], slots[b]));
    }

    long scale(int dest, int a, int c) {
        return no(dest) ? -1 : look(a) < 0 ? look(a) : !residue(c) ? -3 : put(dest, slots[a].scaled(c));
    }

    private boolean digit(int digit) {
        return digit >= 0 && digit < base;
    }

    long trailingSection(int dest, int a, int digit) {
        return no(dest) ? -1 : look(a) < 0 ? look(a) : !digit(digit) ? -3 : put(dest, slots[a].trailing(digit));
    }

    long leadingSection(int dest, int a, int digit) {
        return no(dest) ? -1 : look(a) < 0 ? look(a) : !digit(digit) ? -3 : put(dest, slots[a].leading(digit));
    }

    long reverse(int dest, int a) {
        return no(dest) ? -1 : look(a) < 0 ? look(a) : put(dest, slots[a].reversed());
    }

    long minimize(int dest, int a) {
        return no(dest) ? -1 : look(a) < 0 ? look(a) : put(dest, slots[a].minimized());
    }

    long constant(int dest, int c) {
        return no(dest) ? -1 : !residue(c) ? -3 : put(dest, Shape.constant(base, c));
    }

    long digitCount(int dest, int digit) {
        return no(dest) ? -1 : !digit(digit) ? -3 : put(dest, Shape.digitCount(base, digit));
    }

    long numbers(int dest) {
        return no(dest) ? -1 : put(dest, Shape.numbers(base));
    }

    long randomize(int dest, int dimension, int seed) {
        boolean valid = dimension >= 0 && dimension <= 8;
        return no(dest) ? -1 : !valid ? -3 : put(dest, Shape.random(base, dimension, seed));
    }

    long minimalDimension(int slot) {
        return look(slot) < 0 ? look(slot) : slots[slot].minimized().size;
    }

    long hankelRank(int slot, int maxLength) {
        if (look(slot) < 0) {
            return look(slot);
        }
        if (maxLength < 0 || maxLength > 3) {
            return -3;
        }
        return maxLength == 3 && base > 2 ? UNKNOWN : slots[slot].hankelRank(maxLength);
    }

    long areEqual(int a, int b) {
        if (lookTwo(0, a, b) < 0) {
            return lookTwo(0, a, b);
        }
        long difference = Shape.firstDifference(slots[a], slots[b]);
        return difference == Shape.UNKNOWN ? UNKNOWN : difference == Shape.EQUAL ? 1 : 0;
    }

    long firstDifference(int a, int b, int what) {
        if (lookTwo(0, a, b) < 0) {
            return lookTwo(0, a, b);
        }
        if (what < 0 || what > 1) {
            return -3;
        }
        long difference = Shape.firstDifference(slots[a], slots[b]);
        if (difference == Shape.UNKNOWN) {
            return UNKNOWN;
        }
        return difference == Shape.EQUAL ? -9 : what == 0 ? difference >> 32 : (int) difference;
    }

    long ignoresLeadingZeros(int slot) {
        if (look(slot) < 0) {
            return look(slot);
        }
        long difference = Shape.firstDifference(slots[slot].leading(0), slots[slot]);
        return difference == Shape.UNKNOWN ? UNKNOWN : difference == Shape.EQUAL ? 1 : 0;
    }

    long observe(long n, int v) {
        if (n < 0 || !residue(v)) {
            return -3;
        }
        if (observations.size() == 8) {
            return -5;
        }
        observations.add(new long[] {n, v});
        return observations.size();
    }

    long forgetObservations() {
        int size = observations.size();
        observations.clear();
        return size;
    }

    long firstMismatch(int slot) {
        if (look(slot) < 0) {
            return look(slot);
        }
        for (long[] observation : observations) {
            if (value(slot, observation[0]) != observation[1]) {
                return observations.indexOf(observation);
            }
        }
        return -9;
    }

    long append(int ch) {
        if (ch < 32 || ch > 126) {
            return -3;
        }
        if (text.length() == 80) {
            return -5;
        }
        text = text + (char) ch;
        return text.length();
    }

    long run() {
        String program = text;
        text = "";
        chain.clear();
        if (!PROGRAM.matcher(program).matches()) {
            chain.add(new int[] {-6, errorPosition(program)});
            return -6;
        }
        Shape[] before = slots.clone();
        int at = 0;
        int done = 0;
        for (String statement : program.split(";")) {
            long answer = execute(statement);
            if (answer < 0) {
                slots = before;
                chain.add(new int[] {-7, at});
                chain.add(new int[] {(int) answer, done});
                return -7;
            }
            at += statement.length() + 1;
            done++;
        }
        return done;
    }

    /** A text is the beginning of a program if the pattern matches it or asks for more of it. */
    private static int errorPosition(String program) {
        for (int end = 1; end <= program.length(); end++) {
            Matcher matcher = PROGRAM.matcher(program.substring(0, end));
            if (!matcher.matches() && !matcher.hitEnd()) {
                return end - 1;
            }
        }
        return program.length();
    }

    private long execute(String s) {
        int dest = s.charAt(0) - '0';
        String e = s.substring(2);
        int first = e.length() > 1 ? e.charAt(1) - '0' : 0;
        if (e.equals("n")) {
            return numbers(dest);
        } else if (e.startsWith("k")) {
            return constant(dest, Integer.parseInt(e.substring(1)));
        } else if (e.startsWith("c")) {
            return digitCount(dest, first);
        } else if (e.startsWith("m")) {
            return minimize(dest, first);
        } else if (e.startsWith("r")) {
            return reverse(dest, first);
        } else if (e.startsWith("t")) {
            return trailingSection(dest, first, e.charAt(2) - '0');
        } else if (e.startsWith("l")) {
            return leadingSection(dest, first, e.charAt(2) - '0');
        } else if (e.length() == 1) {
            return copy(dest, e.charAt(0) - '0');
        }
        int a = e.charAt(0) - '0';
        int b = e.charAt(2) - '0';
        return e.charAt(1) == '+' ? add(dest, a, b) : e.charAt(1) == '-' ? subtract(dest, a, b) : multiply(dest, a, b);
    }

    long errorDepth() {
        return chain.size();
    }

    long errorCode(int level) {
        return level < 0 || level >= chain.size() ? -9 : chain.get(level)[0];
    }

    long errorPosition(int level) {
        return level < 0 || level >= chain.size() ? -9 : chain.get(level)[1];
    }

    long save() {
        if (saved.size() == 4) {
            return -5;
        }
        Shape[] copies = new Shape[4];
        for (int slot = 0; slot < 4; slot++) {
            copies[slot] = slots[slot] == null ? null : slots[slot].copied();
        }
        saved.push(new Object[] {base, copies});
        return saved.size();
    }

    long restore() {
        if (saved.isEmpty()) {
            return -8;
        }
        Object[] state = saved.pop();
        base = (Integer) state[0];
        slots = (Shape[]) state[1];
        return saved.size();
    }
}
