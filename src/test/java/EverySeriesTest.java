import java.util.Arrays;

/**
 * All series over the field of two elements whose first coefficients are free and whose others are
 * all the same: each answer is held against what the document asks of it, with no second way to
 * compute it.
 */
public final class EverySeriesTest {
    private static final int FREE = 9;
    private static final int TERMS = 16;

    private final Checks checks = new Checks();
    private final int[] series = new int[TERMS];
    private final Found[][] found = new Found[TERMS][TERMS];

    /** What the workbench tells of an approximant. */
    private record Found(int[] top, int[] bottom, int order, int block) {
        int d() {
            return top.length - 1;
        }

        int e() {
            return bottom.length - 1;
        }
    }

    public static void main(String[] args) {
        EverySeriesTest test = new EverySeriesTest();
        for (int bits = 0; bits < 1 << FREE; bits++) {
            test.look(bits, 0);
            test.look(bits, 1);
        }
        test.checks.end();
    }

    private void look(int bits, int others) {
        for (int k = 0; k < TERMS; k++) {
            series[k] = k < FREE ? bits >> k & 1 : others;
        }
        for (int m = 0; m < TERMS; m++) {
            for (int n = 0; m + n < TERMS; n++) {
                found[m][n] = find(m, n);
                isApproximant(m, n);
            }
        }
        for (int m = 0; m < TERMS; m++) {
            for (int n = 0; m + n < TERMS; n++) {
                fillsItsBlock(found[m][n]);
            }
        }
        normalCounts();
        determinants();
        for (int s = 0; s < TERMS; s++) {
            quotientsGiveSeries(s);
        }
    }

    private PadeWorkbench workbench() {
        return Makers.row(2, series).get();
    }

    private String name(String what, int m, int n) {
        return what + "[" + m + "/" + n + "] of " + Arrays.toString(series);
    }

    private Found find(int m, int n) {
        PadeWorkbench w = workbench();
        int[] top = new int[TERMS];
        int[] bottom = new int[TERMS];
        for (int k = 0; k < TERMS; k++) {
            top[k] = w.numerator(0, m, n, k);
            bottom[k] = w.denominator(0, m, n, k);
        }
        Found fraction = new Found(Poly.trim(top), Poly.trim(bottom), w.order(0, m, n), w.blockSize(0, m, n));
        checks.due(name("degree of P, ", m, n), w.numeratorDegree(0, m, n), fraction.d());
        checks.due(name("degree of Q, ", m, n), w.denominatorDegree(0, m, n), fraction.e());
        return fraction;
    }

    /** P and Q, both times x^k, are a pair A and B if the degrees allow it and enough is 0. */
    private void isApproximant(int m, int n) {
        Found it = found[m][n];
        boolean zero = it.d() < 0;
        int[] common = Poly.common(it.top, it.bottom, 2);
        checks.hold(name("lowest terms, ", m, n), zero ? it.e() == 0 : Poly.degree(common) == 0);
        checks.hold(name("Q begins with 1, ", m, n), it.bottom.length > 0 && it.bottom[0] == 1);
        int k = zero ? n : Math.min(m - it.d(), n - it.e());
        checks.hold(name("degrees, ", m, n), k >= 0);
        checks.hold(name("enough agree, ", m, n), it.order + k > m + n);
        int agree = 0;
        int[] power = Poly.series(it.top, it.bottom, 2);
        while (agree < TERMS && power[agree] == series[agree]) {
            agree++;
        }
        checks.due(name("order, ", m, n), it.order, agree);
        checks.due(name("block, ", m, n), it.block, zero ? PadeWorkbench.NONE : agree - it.d() - it.e() - 1);
    }

    private void fillsItsBlock(Found it) {
        for (int i = 0; i <= it.block; i++) {
            for (int j = 0; j <= it.block && it.d() + i + it.e() + j < TERMS; j++) {
                Found other = found[it.d() + i][it.e() + j];
                checks.hold(name("the same as the corner, ", it.d() + i, it.e() + j),
                        Arrays.equals(it.top, other.top) && Arrays.equals(it.bottom, other.bottom));
            }
        }
    }

    private void normalCounts() {
        PadeWorkbench w = workbench();
        for (int s = 0; s < TERMS; s++) {
            int count = 0;
            for (int m = 0; m <= s; m++) {
                count += found[m][s - m].block == 0 ? 1 : 0;
            }
            checks.due("normalCount " + s + " of " + Arrays.toString(series), w.normalCount(0, s), count);
        }
    }

    /** D(m, n) is not 0 exactly where a block begins, in its first row or its first column. */
    private void determinants() {
        PadeWorkbench w = workbench();
        for (int m = 0; m < TERMS; m++) {
            for (int n = 0; m + n < TERMS; n++) {
                Found it = found[m][n];
                boolean begins = it.d() >= 0 && (it.d() == m || it.e() == n);
                checks.due(name("determinant, ", m, n), w.determinant(0, m, n), n == 0 || begins ? 1 : 0);
            }
        }
    }

    /** A fraction has one chain of quotients of degree 1 and more: x^(s + 1) over r1 has these. */
    private void quotientsGiveSeries(int s) {
        PadeWorkbench w = workbench();
        String what = "quotients " + s + " of " + Arrays.toString(series);
        int[] before = {1};
        int[] latest = {};
        for (int i = w.quotientCount(0, s) - 1; i >= 0; i--) {
            int[] quotient = new int[TERMS + 1];
            for (int k = 0; k <= TERMS; k++) {
                quotient[k] = w.quotient(0, s, i, k);
            }
            checks.hold(what + ", degree of " + i, Poly.degree(quotient) >= 1);
            int[] product = Poly.times(quotient, before, 2);
            int[] next = Poly.minus(product, Poly.minus(new int[0], latest, 2), 2);
            latest = before;
            before = next;
        }
        int[] start = Poly.trim(Arrays.copyOf(series, s + 1));
        boolean same = Arrays.equals(Poly.times(before, start, 2), Poly.times(latest, Poly.power(s + 1), 2));
        checks.hold(what, same);
        checks.hold(what + ", none", w.quotientCount(0, s) > 0 || start.length == 0);
    }
}
