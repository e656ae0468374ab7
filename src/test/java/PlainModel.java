import java.math.BigInteger;
import java.util.ArrayDeque;
import java.util.ArrayList;
import java.util.Arrays;
import java.util.HashMap;
import java.util.List;
import java.util.Map;
import java.util.regex.Matcher;
import java.util.regex.Pattern;

/**
 * The document once more, by other ways than the class takes: linear systems in place of Euclid's
 * algorithm and of Berlekamp and Massey, an automaton in place of the reader, exact integers for
 * the determinants. It is slow, and its answers are what the class is compared with.
 */
final class PlainModel {
    static final int NONE = -1;
    static final int INVALID = -2;
    static final int REJECTED = -3;
    static final int FULL = -4;

    private int p = 101;
    private int[][] series = new int[4][16];
    private List<int[]> points = new ArrayList<>();
    private String text = "";
    private final ArrayDeque<Saved> stack = new ArrayDeque<>();
    private final int[] errors = new int[3];

    private record Saved(int p, int[][] series, List<int[]> points) {
    }

    private record Ratio(int[] top, int[] bottom) {
    }

    private void save() {
        stack.push(new Saved(p, copy(series), new ArrayList<>(points)));
        if (stack.size() > 4) {
            stack.removeLast();
        }
    }

    private static int[][] copy(int[][] rows) {
        int[][] made = new int[rows.length][];
        for (int i = 0; i < rows.length; i++) {
            made[i] = rows[i].clone();
        }
        return made;
    }

    private int fail(int code) {
        errors[-2 - code]++;
        return code;
    }

    private static boolean in(int value, int low, int high) {
        return value >= low && value <= high;
    }

    private int mod(long value) {
        return (int) Math.floorMod(value, (long) p);
    }

    private int inverse(int a) {
        return BigInteger.valueOf(a).modInverse(BigInteger.valueOf(p)).intValueExact();
    }

    // ---- field and series

    int setPrime(int prime) {
        if (!in(prime, 2, 251) || !BigInteger.valueOf(prime).isProbablePrime(50)) {
            return fail(INVALID);
        }
        save();
        int previous = p;
        p = prime;
        series = new int[4][16];
        points = new ArrayList<>();
        return previous;
    }

    int set(int slot, int index, int value) {
        if (!in(slot, 0, 3) || !in(index, 0, 15) || !in(value, 0, p - 1)) {
            return fail(INVALID);
        }
        save();
        int previous = series[slot][index];
        series[slot][index] = value;
        return previous;
    }

    int coefficient(int slot, int index) {
        return in(slot, 0, 3) && in(index, 0, 15) ? series[slot][index] : fail(INVALID);
    }

    private int store(int to, int[] row) {
        save();
        series[to] = row;
        return (int) Arrays.stream(row).filter(c -> c != 0).count();
    }

    int add(int a, int b, int to) {
        if (!in(a, 0, 3) || !in(b, 0, 3) || !in(to, 0, 3)) {
            return fail(INVALID);
        }
        int[] row = new int[16];
        for (int k = 0; k < 16; k++) {
            row[k] = mod(series[a][k] + series[b][k]);
        }
        return store(to, row);
    }

    private int[] times(int[] a, int[] b) {
        int[] row = new int[16];
        for (int i = 0; i < 16; i++) {
            for (int j = 0; i + j < 16; j++) {
                row[i + j] = mod(row[i + j] + a[i] * b[j]);
            }
        }
        return row;
    }

    /** The series a / b by long division; b[0] is not 0. */
    private int[] over(int[] a, int[] b) {
        int[] rest = Arrays.copyOf(a, 16);
        int[] row = new int[16];
        for (int k = 0; k < 16; k++) {
            row[k] = mod((long) rest[k] * inverse(b[0]));
            for (int j = 0; k + j < 16 && j < b.length; j++) {
                rest[k + j] = mod(rest[k + j] - row[k] * b[j]);
            }
        }
        return row;
    }

    int multiply(int a, int b, int to) {
        if (!in(a, 0, 3) || !in(b, 0, 3) || !in(to, 0, 3)) {
            return fail(INVALID);
        }
        return store(to, times(series[a], series[b]));
    }

    int invert(int a, int to) {
        if (!in(a, 0, 3) || !in(to, 0, 3)) {
            return fail(INVALID);
        }
        if (series[a][0] == 0) {
            return fail(REJECTED);
        }
        return store(to, over(new int[] {1}, series[a]));
    }

    int substitute(int a, int b, int to) {
        if (!in(a, 0, 3) || !in(b, 0, 3) || !in(to, 0, 3)) {
            return fail(INVALID);
        }
        if (series[b][0] != 0) {
            return fail(REJECTED);
        }
        int[] power = new int[16];
        power[0] = 1;
        int[] row = new int[16];
        for (int i = 0; i < 16; i++) {
            for (int k = 0; k < 16; k++) {
                row[k] = mod(row[k] + series[a][i] * power[k]);
            }
            power = times(power, series[b]);
        }
        return store(to, row);
    }

    int derivative(int a, int to) {
        if (!in(a, 0, 3) || !in(to, 0, 3)) {
            return fail(INVALID);
        }
        int[] row = new int[16];
        for (int k = 0; k < 15; k++) {
            row[k] = mod((k + 1) * series[a][k + 1]);
        }
        return store(to, row);
    }

    // ---- text

    int append(int value) {
        if (!in(value, 0, 127)) {
            return fail(INVALID);
        }
        if (text.length() == 80) {
            return fail(FULL);
        }
        text += (char) value;
        return text.length();
    }

    int clearText() {
        int previous = text.length();
        text = "";
        return previous;
    }

    int parse(int slot) {
        if (!in(slot, 0, 3)) {
            return fail(INVALID);
        }
        int error = syntaxError();
        if (error >= 0) {
            return -10 - error;
        }
        String[] parts = text.replace(" ", "").split("/");
        int[] top = polynomial(parts[0]);
        int[] bottom = parts.length == 2 ? polynomial(parts[1]) : new int[] {1};
        return bottom[0] == 0 ? fail(REJECTED) : store(slot, over(top, bottom));
    }

    private int[] polynomial(String part) {
        int[] row = new int[16];
        Matcher terms = Pattern.compile("([+-]?)([0-9]*)(x?)(?:\\^([0-9]+))?").matcher(part);
        while (terms.find()) {
            if (terms.group().isEmpty()) {
                continue;
            }
            int number = terms.group(2).isEmpty() ? 1 : Integer.parseInt(terms.group(2));
            int exponent = terms.group(3).isEmpty() ? 0 : 1;
            if (terms.group(4) != null) {
                exponent = Integer.parseInt(terms.group(4));
            }
            row[exponent] = mod(row[exponent] + (terms.group(1).equals("-") ? -number : number));
        }
        return row;
    }

    /**
     * An automaton over the text. Its states: P a polynomial begins, T a term must come, 1 to 4
     * digits of a number, N after a number and a space, X after x, C after ^, a and b digits of an
     * exponent, E after an exponent and a space.
     */
    private int syntaxError() {
        char state = 'P';
        boolean slash = false;
        for (int i = 0; i <= text.length(); i++) {
            char c = i < text.length() ? text.charAt(i) : '$';
            boolean digit = c >= '0' && c <= '9';
            if (state == 'b' && !digit && Integer.parseInt(text.substring(i - 2, i)) > 15) {
                return i - 2;
            }
            boolean whole = "1234NXabE".indexOf(state) >= 0;
            if (i == text.length()) {
                return whole ? -1 : i;
            }
            if (c == ' ') {
                state = "1234".indexOf(state) >= 0 ? 'N' : "ab".indexOf(state) >= 0 ? 'E' : state;
            } else if (digit && "PT".indexOf(state) >= 0) {
                state = '1';
            } else if (digit && "123".indexOf(state) >= 0) {
                state++;
            } else if (digit && state == 'C') {
                state = 'a';
            } else if (digit && state == 'a') {
                state = 'b';
            } else if (c == 'x' && "PT1234N".indexOf(state) >= 0) {
                state = 'X';
            } else if (c == '^' && state == 'X') {
                state = 'C';
            } else if (c == '-' && state == 'P' || (c == '+' || c == '-') && whole) {
                state = 'T';
            } else if (c == '/' && whole && !slash) {
                slash = true;
                state = 'P';
            } else {
                return i;
            }
        }
        throw new IllegalStateException();
    }

    // ---- linear systems and polynomials

    /** A vector that is not 0 and that every row is orthogonal to; there must be one. */
    private int[] kernel(int[][] rows, int width) {
        int[] pivotOf = new int[width];
        int rank = eliminate(rows, width, pivotOf);
        for (int free = width - 1; free >= 0; free--) {
            if (pivotOf[free] < 0) {
                int[] found = new int[width];
                found[free] = 1;
                for (int c = 0; c < width; c++) {
                    if (pivotOf[c] >= 0) {
                        found[c] = mod(-rows[pivotOf[c]][free]);
                    }
                }
                return found;
            }
        }
        throw new IllegalStateException("rank " + rank);
    }

    /** Reduced row echelon form in the first columns; tells the row of each column's pivot. */
    private int eliminate(int[][] rows, int width, int[] pivotOf) {
        int rank = 0;
        for (int c = 0; c < width; c++) {
            pivotOf[c] = -1;
            int found = rank;
            while (found < rows.length && rows[found][c] == 0) {
                found++;
            }
            if (found == rows.length) {
                continue;
            }
            int[] row = rows[found];
            rows[found] = rows[rank];
            rows[rank] = row;
            int scale = inverse(row[c]);
            for (int k = 0; k < row.length; k++) {
                row[k] = mod(row[k] * scale);
            }
            for (int[] other : rows) {
                int factor = other[c];
                for (int k = 0; other != row && k < row.length; k++) {
                    other[k] = mod(other[k] - factor * row[k]);
                }
            }
            pivotOf[c] = rank++;
        }
        return rank;
    }

    private static int degree(int[] a) {
        int d = a.length - 1;
        while (d >= 0 && a[d] == 0) {
            d--;
        }
        return d;
    }

    /** The quotient and the remainder; b is not 0. */
    private int[][] divide(int[] a, int[] b) {
        int[] rest = a.clone();
        int[] quotient = new int[17];
        int low = degree(b);
        for (int d = degree(rest); d >= low; d = degree(rest)) {
            int factor = mod(rest[d] * inverse(b[low]));
            quotient[d - low] = factor;
            for (int k = 0; k <= low; k++) {
                rest[d - low + k] = mod(rest[d - low + k] - factor * b[k]);
            }
        }
        return new int[][] {quotient, rest};
    }

    private int[] gcd(int[] a, int[] b) {
        return degree(b) < 0 ? a : gcd(b, divide(a, b)[1]);
    }

    private Ratio lowest(int[] a, int[] b) {
        if (degree(a) < 0) {
            return new Ratio(new int[17], Arrays.copyOf(new int[] {1}, 17));
        }
        int[] common = gcd(a, b);
        int[] top = divide(a, common)[0];
        int[] bottom = divide(b, common)[0];
        int scale = inverse(Arrays.stream(bottom).filter(c -> c != 0).findFirst().getAsInt());
        for (int k = 0; k < 17; k++) {
            top[k] = mod(top[k] * scale);
            bottom[k] = mod(bottom[k] * scale);
        }
        return new Ratio(top, bottom);
    }

    private int value(int[] a, int x) {
        BigInteger sum = BigInteger.ZERO;
        for (int k = 0; k < a.length; k++) {
            sum = sum.add(BigInteger.valueOf(x).pow(k).multiply(BigInteger.valueOf(a[k])));
        }
        return sum.mod(BigInteger.valueOf(p)).intValueExact();
    }

    // ---- Pade approximants

    private boolean badPade(int slot, int m, int n) {
        return !in(slot, 0, 3) || m < 0 || n < 0 || (long) m + n > 15;
    }

    private Ratio pade(int slot, int m, int n) {
        int[] c = series[slot];
        int[][] rows = new int[n][n + 1];
        for (int k = m + 1; k <= m + n; k++) {
            for (int i = 0; i <= n && i <= k; i++) {
                rows[k - m - 1][i] = c[k - i];
            }
        }
        int[] b = Arrays.copyOf(kernel(rows, n + 1), 17);
        int[] a = Arrays.copyOf(Arrays.copyOf(times(b, c), m + 1), 17);
        return lowest(a, b);
    }

    private int agreement(int slot, Ratio ratio) {
        int at = Arrays.mismatch(over(ratio.top, ratio.bottom), series[slot]);
        return at < 0 ? 16 : at;
    }

    int numeratorDegree(int slot, int m, int n) {
        return badPade(slot, m, n) ? fail(INVALID) : degree(pade(slot, m, n).top);
    }

    int denominatorDegree(int slot, int m, int n) {
        return badPade(slot, m, n) ? fail(INVALID) : degree(pade(slot, m, n).bottom);
    }

    int numerator(int slot, int m, int n, int index) {
        boolean bad = badPade(slot, m, n) || !in(index, 0, 15);
        return bad ? fail(INVALID) : pade(slot, m, n).top[index];
    }

    int denominator(int slot, int m, int n, int index) {
        boolean bad = badPade(slot, m, n) || !in(index, 0, 15);
        return bad ? fail(INVALID) : pade(slot, m, n).bottom[index];
    }

    int order(int slot, int m, int n) {
        return badPade(slot, m, n) ? fail(INVALID) : agreement(slot, pade(slot, m, n));
    }

    int blockSize(int slot, int m, int n) {
        if (badPade(slot, m, n)) {
            return fail(INVALID);
        }
        Ratio ratio = pade(slot, m, n);
        int d = degree(ratio.top);
        return d < 0 ? NONE : agreement(slot, ratio) - d - degree(ratio.bottom) - 1;
    }

    int evaluate(int slot, int m, int n, int x) {
        if (badPade(slot, m, n) || !in(x, 0, p - 1)) {
            return fail(INVALID);
        }
        Ratio ratio = pade(slot, m, n);
        int below = value(ratio.bottom, x);
        return below == 0 ? NONE : mod(value(ratio.top, x) * inverse(below));
    }

    int normalCount(int slot, int s) {
        if (!in(slot, 0, 3) || !in(s, 0, 15)) {
            return fail(INVALID);
        }
        int count = 0;
        for (int m = 0; m <= s; m++) {
            count += blockSize(slot, m, s - m) == 0 ? 1 : 0;
        }
        return count;
    }

    // ---- determinants, quotient-difference scheme, quotients, recurrences

    int determinant(int slot, int m, int n) {
        if (!in(slot, 0, 3) || m < 0 || n < 0 || (long) m + n > 16) {
            return fail(INVALID);
        }
        BigInteger[][] cells = new BigInteger[n][n];
        for (int i = 0; i < n; i++) {
            for (int j = 0; j < n; j++) {
                cells[i][j] = BigInteger.valueOf(m + i - j < 0 ? 0 : series[slot][m + i - j]);
            }
        }
        return bareiss(cells).mod(BigInteger.valueOf(p)).intValueExact();
    }

    /** The determinant over the integers, without fractions. */
    private static BigInteger bareiss(BigInteger[][] cells) {
        BigInteger last = BigInteger.ONE;
        int sign = 1;
        for (int c = 0; c < cells.length; c++) {
            int pivot = c;
            while (pivot < cells.length && cells[pivot][c].signum() == 0) {
                pivot++;
            }
            if (pivot == cells.length) {
                return BigInteger.ZERO;
            }
            sign = pivot == c ? sign : -sign;
            BigInteger[] row = cells[pivot];
            cells[pivot] = cells[c];
            cells[c] = row;
            for (int i = c + 1; i < cells.length; i++) {
                for (int j = c + 1; j < cells.length; j++) {
                    BigInteger cross = cells[i][c].multiply(row[j]);
                    cells[i][j] = cells[i][j].multiply(row[c]).subtract(cross).divide(last);
                }
            }
            last = row[c];
        }
        return sign > 0 ? last : last.negate();
    }

    int quotientDifference(int slot, int kind, int j, int k) {
        boolean bad = !in(slot, 0, 3) || !in(kind, 0, 1) || j < 1 || k < 0;
        if (bad || k + 2L * j - 1 + kind > 15) {
            return fail(INVALID);
        }
        Integer found = scheme(slot, kind, j, k, new HashMap<>());
        return found == null ? NONE : found;
    }

    /** A number of the scheme by its own formula, or null if it is undefined. */
    private Integer scheme(int slot, int kind, int j, int k, Map<Integer, Integer> known) {
        if (kind == 1 && j == 0) {
            return 0;
        }
        int key = (kind * 20 + j) * 20 + k;
        if (!known.containsKey(key)) {
            known.put(key, kind == 0 ? q(slot, j, k, known) : e(slot, j, k, known));
        }
        return known.get(key);
    }

    private Integer q(int slot, int j, int k, Map<Integer, Integer> known) {
        if (j == 1) {
            int below = series[slot][k];
            return below == 0 ? null : (Integer) mod(series[slot][k + 1] * inverse(below));
        }
        Integer a = scheme(slot, 0, j - 1, k + 1, known);
        Integer b = scheme(slot, 1, j - 1, k + 1, known);
        Integer c = scheme(slot, 1, j - 1, k, known);
        if (a == null || b == null || c == null || c == 0) {
            return null;
        }
        return mod((long) a * b * inverse(c));
    }

    private Integer e(int slot, int j, int k, Map<Integer, Integer> known) {
        Integer a = scheme(slot, 0, j, k + 1, known);
        Integer b = scheme(slot, 0, j, k, known);
        Integer c = scheme(slot, 1, j - 1, k + 1, known);
        return a == null || b == null || c == null ? null : (Integer) mod(a - b + c);
    }

    private List<int[]> quotients(int slot, int s) {
        int[] before = new int[17];
        before[s + 1] = 1;
        int[] latest = Arrays.copyOf(Arrays.copyOf(series[slot], s + 1), 17);
        List<int[]> found = new ArrayList<>();
        while (degree(latest) >= 0) {
            int[][] both = divide(before, latest);
            found.add(both[0]);
            before = latest;
            latest = both[1];
        }
        return found;
    }

    int quotientCount(int slot, int s) {
        return in(slot, 0, 3) && in(s, 0, 15) ? quotients(slot, s).size() : fail(INVALID);
    }

    int quotient(int slot, int s, int i, int index) {
        if (!in(slot, 0, 3) || !in(s, 0, 15) || i < 0 || !in(index, 0, 16)) {
            return fail(INVALID);
        }
        List<int[]> found = quotients(slot, s);
        return i < found.size() ? found.get(i)[index] : NONE;
    }

    /** The numbers g1 to gd, or null if there are none for this d. */
    private int[] solveRecurrence(int[] c, int length, int d) {
        int[][] rows = new int[length - d][d + 1];
        for (int k = d; k < length; k++) {
            for (int i = 1; i <= d; i++) {
                rows[k - d][i - 1] = c[k - i];
            }
            rows[k - d][d] = c[k];
        }
        int[] pivotOf = new int[d];
        int rank = eliminate(rows, d, pivotOf);
        for (int i = rank; i < rows.length; i++) {
            if (rows[i][d] != 0) {
                return null;
            }
        }
        int[] found = new int[d];
        for (int i = 0; i < d; i++) {
            found[i] = pivotOf[i] < 0 ? 0 : rows[pivotOf[i]][d];
        }
        return found;
    }

    private int[] shortestRecurrence(int slot, int length) {
        for (int d = 0;; d++) {
            int[] found = solveRecurrence(series[slot], length, d);
            if (found != null) {
                return found;
            }
        }
    }

    int complexity(int slot, int length) {
        boolean bad = !in(slot, 0, 3) || !in(length, 1, 16);
        return bad ? fail(INVALID) : shortestRecurrence(slot, length).length;
    }

    int recurrence(int slot, int length, int i) {
        if (!in(slot, 0, 3) || !in(length, 1, 16) || i < 1) {
            return fail(INVALID);
        }
        int[] found = shortestRecurrence(slot, length);
        return 2 * found.length > length || i > found.length ? NONE : found[i - 1];
    }

    // ---- rational interpolation

    int addPoint(int x, int y) {
        if (!in(x, 0, p - 1) || !in(y, 0, p - 1)) {
            return fail(INVALID);
        }
        if (points.stream().anyMatch(point -> point[0] == x)) {
            return fail(REJECTED);
        }
        if (points.size() == 10) {
            return fail(FULL);
        }
        save();
        points.add(new int[] {x, y});
        return points.size();
    }

    int clearPoints() {
        save();
        int removed = points.size();
        points = new ArrayList<>();
        return removed;
    }

    private Ratio through(int m) {
        int count = points.size();
        int[][] rows = new int[count][count + 1];
        for (int i = 0; i < count; i++) {
            int power = 1;
            for (int k = 0; k < count; k++) {
                if (k <= m) {
                    rows[i][k] = mod(-power);
                }
                if (k <= count - 1 - m) {
                    rows[i][m + 1 + k] = mod(power * points.get(i)[1]);
                }
                power = mod(power * points.get(i)[0]);
            }
        }
        int[] both = kernel(rows, count + 1);
        int[] a = Arrays.copyOf(Arrays.copyOf(both, m + 1), 17);
        int[] b = Arrays.copyOf(Arrays.copyOfRange(both, m + 1, count + 1), 17);
        return lowest(a, b);
    }

    int interpolant(int m, int part, int index) {
        if (!in(m, 0, points.size() - 1) || !in(part, 0, 1) || !in(index, 0, 9)) {
            return fail(INVALID);
        }
        Ratio ratio = through(m);
        return part == 0 ? ratio.top[index] : ratio.bottom[index];
    }

    int unattainable(int m) {
        if (!in(m, 0, points.size() - 1)) {
            return fail(INVALID);
        }
        Ratio ratio = through(m);
        int count = 0;
        for (int[] point : points) {
            int below = value(ratio.bottom, point[0]);
            int above = value(ratio.top, point[0]);
            count += below == 0 || mod(above * inverse(below)) != point[1] ? 1 : 0;
        }
        return count;
    }

    // ---- undo and errors

    int undo() {
        if (stack.isEmpty()) {
            return fail(REJECTED);
        }
        Saved saved = stack.pop();
        p = saved.p;
        series = copy(saved.series);
        points = new ArrayList<>(saved.points);
        return stack.size();
    }

    int errorCount(int kind) {
        return in(kind, 0, 2) ? errors[kind] : fail(INVALID);
    }

    long digest() {
        List<Integer> values = new ArrayList<>();
        values.addAll(List.of(errors[0], errors[1], errors[2], text.length(), stack.size(), p));
        for (int slot = 0; slot < 4; slot++) {
            for (int c : series[slot]) {
                values.add(c);
            }
            for (int m = 0; m <= 7; m++) {
                values.add(order(slot, m, 7 - m));
                values.add(numeratorDegree(slot, m, 7 - m));
            }
            values.add(complexity(slot, 16));
            values.add(normalCount(slot, 7));
        }
        values.add(points.size());
        for (int[] point : points) {
            values.add(point[0]);
            values.add(point[1]);
        }
        for (int m = 0; m < points.size(); m++) {
            values.add(unattainable(m));
        }
        long h = 12475;
        for (int v : values) {
            h = 31 * h + v;
        }
        return h;
    }

    int prime() {
        return p;
    }

    int pointCount() {
        return points.size();
    }
}
