import java.util.ArrayList;
import java.util.List;

/**
 * A representation written down as plainly as the document says it, slow and with new arrays
 * everywhere: what the tests hold the program against.
 */
final class Shape {
    static final int P = 10007;

    final int base;
    final int size;
    final int[] row;
    final int[][][] matrices;
    final int[] column;

    Shape(int base, int size) {
        this.base = base;
        this.size = size;
        row = new int[size];
        matrices = new int[base][size][size];
        column = new int[size];
    }

    static Shape of(int[] row, int[][][] matrices, int[] column) {
        Shape made = new Shape(matrices.length, row.length);
        for (int i = 0; i < row.length; i++) {
            made.row[i] = row[i];
            made.column[i] = column[i];
            for (int d = 0; d < matrices.length; d++) {
                made.matrices[d][i] = matrices[d][i].clone();
            }
        }
        return made;
    }

    Shape copied() {
        return of(row, matrices, column);
    }

    /** Entries from 0 to the highest, in no order that anything depends on. */
    static Shape scattered(int base, int size, long seed, int highest) {
        Shape made = new Shape(base, size);
        Dice dice = new Dice(seed);
        for (int i = 0; i < size; i++) {
            made.row[i] = dice.below(highest + 1);
            made.column[i] = dice.below(highest + 1);
            for (int d = 0; d < base; d++) {
                for (int j = 0; j < size; j++) {
                    made.matrices[d][i][j] = dice.below(highest + 1);
                }
            }
        }
        return made;
    }

    static Shape constant(int base, int c) {
        Shape made = new Shape(base, 1);
        made.row[0] = c;
        made.column[0] = 1;
        for (int d = 0; d < base; d++) {
            made.matrices[d][0][0] = 1;
        }
        return made;
    }

    static Shape digitCount(int base, int digit) {
        Shape made = new Shape(base, 2);
        made.row[0] = 1;
        made.column[1] = 1;
        for (int d = 0; d < base; d++) {
            made.matrices[d] = d == digit ? new int[][] {{1, 1}, {0, 1}} : new int[][] {{1, 0}, {0, 1}};
        }
        return made;
    }

    static Shape numbers(int base) {
        Shape made = new Shape(base, 2);
        made.row[1] = 1;
        made.column[0] = 1;
        for (int d = 0; d < base; d++) {
            made.matrices[d] = new int[][] {{base, 0}, {d, 1}};
        }
        return made;
    }

    static Shape random(int base, int size, int seed) {
        Shape made = new Shape(base, size);
        int state = seed;
        for (int i = 0; i < size; i++) {
            state = state * 1103515245 + 12345;
            made.row[i] = (state >>> 16) % 3;
        }
        for (int d = 0; d < base; d++) {
            for (int i = 0; i < size; i++) {
                for (int j = 0; j < size; j++) {
                    state = state * 1103515245 + 12345;
                    made.matrices[d][i][j] = (state >>> 16) % 3;
                }
            }
        }
        for (int i = 0; i < size; i++) {
            state = state * 1103515245 + 12345;
            made.column[i] = (state >>> 16) % 3;
        }
        return made;
    }

    static Shape sum(Shape a, Shape b) {
        Shape made = new Shape(a.base, a.size + b.size);
        for (int i = 0; i < made.size; i++) {
            boolean inA = i < a.size;
            made.row[i] = inA ? a.row[i] : b.row[i - a.size];
            made.column[i] = inA ? a.column[i] : b.column[i - a.size];
            for (int d = 0; d < a.base; d++) {
                for (int j = 0; j < made.size; j++) {
                    if (inA && j < a.size) {
                        made.matrices[d][i][j] = a.matrices[d][i][j];
                    } else if (!inA && j >= a.size) {
                        made.matrices[d][i][j] = b.matrices[d][i - a.size][j - a.size];
                    }
                }
            }
        }
        return made;
    }

    static Shape difference(Shape a, Shape b) {
        Shape made = sum(a, b);
        for (int i = a.size; i < made.size; i++) {
            made.column[i] = (P - made.column[i]) % P;
        }
        return made;
    }

    static Shape product(Shape a, Shape b) {
        Shape made = new Shape(a.base, a.size * b.size);
        for (int i = 0; i < made.size; i++) {
            made.row[i] = a.row[i / b.size] * b.row[i % b.size] % P;
            made.column[i] = a.column[i / b.size] * b.column[i % b.size] % P;
            for (int d = 0; d < a.base; d++) {
                for (int j = 0; j < made.size; j++) {
                    made.matrices[d][i][j] = a.matrices[d][i / b.size][j / b.size]
                            * b.matrices[d][i % b.size][j % b.size] % P;
                }
            }
        }
        return made;
    }

    Shape scaled(int c) {
        Shape made = copied();
        for (int i = 0; i < size; i++) {
            made.row[i] = row[i] * c % P;
        }
        return made;
    }

    Shape trailing(int digit) {
        Shape made = copied();
        for (int i = 0; i < size; i++) {
            made.column[i] = dot(matrices[digit][i], column);
        }
        return made;
    }

    Shape leading(int digit) {
        Shape made = copied();
        int[] moved = step(row, digit);
        System.arraycopy(moved, 0, made.row, 0, size);
        return made;
    }

    Shape reversed() {
        Shape made = new Shape(base, size);
        for (int i = 0; i < size; i++) {
            made.row[i] = column[i];
            made.column[i] = row[i];
            for (int d = 0; d < base; d++) {
                for (int j = 0; j < size; j++) {
                    made.matrices[d][i][j] = matrices[d][j][i];
                }
            }
        }
        return made;
    }

    Shape minimized() {
        return leftReduced().reversed().leftReduced().reversed();
    }

    Shape leftReduced() {
        List<int[]> kept = keptVectors(Integer.MAX_VALUE);
        Shape made = new Shape(base, kept.size());
        for (int i = 0; i < made.size; i++) {
            made.row[i] = i == 0 ? 1 : 0;
            made.column[i] = dot(kept.get(i), column);
            for (int d = 0; d < base; d++) {
                made.matrices[d][i] = solve(kept, step(kept.get(i), d));
            }
        }
        return made;
    }

    /** Looks at all strings of a length, until a length brings nothing new. */
    List<int[]> keptVectors(int maxLength) {
        List<int[]> kept = new ArrayList<>();
        List<int[]> level = new ArrayList<>();
        level.add(row);
        for (int length = 0; length <= maxLength; length++) {
            int before = kept.size();
            for (int[] vector : level) {
                kept.add(vector);
                if (rank(kept) < kept.size()) {
                    kept.remove(kept.size() - 1);
                }
            }
            if (kept.size() == before || kept.size() == size) {
                return kept;
            }
            List<int[]> next = new ArrayList<>();
            for (int[] vector : level) {
                for (int d = 0; d < base; d++) {
                    next.add(step(vector, d));
                }
            }
            level = next;
        }
        return kept;
    }

    int[] step(int[] vector, int digit) {
        int[] moved = new int[size];
        for (int j = 0; j < size; j++) {
            long sum = 0;
            for (int i = 0; i < size; i++) {
                sum += (long) vector[i] * matrices[digit][i][j];
            }
            moved[j] = (int) (sum % P);
        }
        return moved;
    }

    static int dot(int[] a, int[] b) {
        long sum = 0;
        for (int i = 0; i < a.length; i++) {
            sum += (long) a[i] * b[i];
        }
        return (int) (sum % P);
    }

    int value(int[] digits) {
        int[] vector = row;
        for (int digit : digits) {
            vector = step(vector, digit);
        }
        return dot(vector, column);
    }

    /** The digits of n, padded with zeros to at least the length. */
    static int[] digits(long n, int base, int length) {
        List<Integer> reversed = new ArrayList<>();
        for (long rest = n; rest > 0; rest /= base) {
            reversed.add((int) (rest % base));
        }
        while (reversed.size() < length) {
            reversed.add(0);
        }
        int[] digits = new int[reversed.size()];
        for (int i = 0; i < digits.length; i++) {
            digits[i] = reversed.get(digits.length - 1 - i);
        }
        return digits;
    }

    long strings(int length) {
        long count = 1;
        for (int k = 0; k < length; k++) {
            count *= base;
        }
        return count;
    }

    int zerosOfLength(int length) {
        int zeros = 0;
        for (long n = 0; n < strings(length); n++) {
            if (value(digits(n, base, length)) == 0) {
                zeros++;
            }
        }
        return zeros;
    }

    int hankelRank(int maxLength) {
        List<int[]> all = new ArrayList<>();
        for (int length = 0; length <= maxLength; length++) {
            for (long n = 0; n < strings(length); n++) {
                all.add(digits(n, base, length));
            }
        }
        List<int[]> hankel = new ArrayList<>();
        for (int[] u : all) {
            int[] values = new int[all.size()];
            for (int k = 0; k < values.length; k++) {
                int[] v = all.get(k);
                int[] uv = java.util.Arrays.copyOf(u, u.length + v.length);
                System.arraycopy(v, 0, uv, u.length, v.length);
                values[k] = value(uv);
            }
            hankel.add(values);
        }
        return rank(hankel);
    }

    static int rank(List<int[]> vectors) {
        long[][] rows = new long[vectors.size()][];
        for (int i = 0; i < rows.length; i++) {
            rows[i] = java.util.Arrays.stream(vectors.get(i)).asLongStream().toArray();
        }
        return eliminate(rows, rows.length == 0 ? 0 : rows[0].length);
    }

    /** Gauss and Jordan on the first columns; answers how many pivots there are. */
    private static int eliminate(long[][] rows, int columns) {
        int pivots = 0;
        for (int c = 0; c < columns && pivots < rows.length; c++) {
            int found = pivots;
            while (found < rows.length && rows[found][c] == 0) {
                found++;
            }
            if (found == rows.length) {
                continue;
            }
            long[] pivotRow = rows[found];
            rows[found] = rows[pivots];
            rows[pivots] = pivotRow;
            long inverse = java.math.BigInteger.valueOf(pivotRow[c]).modInverse(java.math.BigInteger.valueOf(P))
                    .longValue();
            for (int k = 0; k < pivotRow.length; k++) {
                pivotRow[k] = pivotRow[k] * inverse % P;
            }
            for (long[] other : rows) {
                if (other != pivotRow && other[c] != 0) {
                    long factor = P - other[c];
                    for (int k = 0; k < other.length; k++) {
                        other[k] = (other[k] + factor * pivotRow[k]) % P;
                    }
                }
            }
            pivots++;
        }
        return pivots;
    }

    /** The coefficients that write the vector in the independent ones. */
    private static int[] solve(List<int[]> independent, int[] vector) {
        int unknowns = independent.size();
        long[][] rows = new long[vector.length][unknowns + 1];
        for (int i = 0; i < vector.length; i++) {
            for (int k = 0; k < unknowns; k++) {
                rows[i][k] = independent.get(k)[i];
            }
            rows[i][unknowns] = vector[i];
        }
        if (eliminate(rows, unknowns) != unknowns) {
            throw new IllegalStateException("the vectors are not independent");
        }
        int[] coefficients = new int[unknowns];
        for (int k = 0; k < unknowns; k++) {
            coefficients[k] = (int) rows[k][unknowns];
        }
        return coefficients;
    }

    static final long EQUAL = -1;
    static final long UNKNOWN = -2;
    private static final int MOST_STRINGS = 70000;

    /**
     * Where a and b differ first: length times 2 to the power of 32 plus the number of the string,
     * EQUAL, or UNKNOWN if that would take too many strings.
     */
    static long firstDifference(Shape a, Shape b) {
        List<int[]> levelA = List.of(a.row);
        List<int[]> levelB = List.of(b.row);
        for (int length = 0; length <= a.size + b.size; length++) {
            for (int n = 0; n < levelA.size(); n++) {
                if (dot(levelA.get(n), a.column) != dot(levelB.get(n), b.column)) {
                    return ((long) length << 32) + n;
                }
            }
            if (levelA.size() * a.base > MOST_STRINGS) {
                return UNKNOWN;
            }
            levelA = nextLevel(a, levelA);
            levelB = nextLevel(b, levelB);
        }
        return EQUAL;
    }

    private static List<int[]> nextLevel(Shape shape, List<int[]> level) {
        List<int[]> next = new ArrayList<>();
        for (int[] vector : level) {
            for (int d = 0; d < shape.base; d++) {
                next.add(shape.step(vector, d));
            }
        }
        return next;
    }

    void putInto(RegularSequences x, int slot) {
        Workbenches.build(x, slot, row, matrices, column);
    }

    void dueIn(RegularSequences x, int slot) {
        Workbenches.dueSlot(x, slot, row, matrices, column);
    }
}
