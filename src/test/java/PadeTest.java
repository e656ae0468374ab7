/** Promises 13 to 20: Pade approximants. */
public final class PadeTest {
    private static final int NONE = -1;
    private static final int INVALID = -2;
    private static final int[][] NO_APPROXIMANTS = {
        {-1, 0, 0}, {4, 0, 0}, {0, -1, 0}, {0, 0, -1}, {0, 16, 0}, {0, 0, 16}, {0, 8, 8},
        {0, 15, 1}, {0, 1, 15}, {0, 17, -2}, {0, -1, 5}, {Integer.MIN_VALUE, 0, 0},
        {Integer.MAX_VALUE, 0, 0}, {0, Integer.MAX_VALUE, 1}, {0, 1, Integer.MAX_VALUE},
        {0, Integer.MAX_VALUE, Integer.MAX_VALUE}, {0, Integer.MIN_VALUE, Integer.MIN_VALUE}
    };

    private final Checks checks = new Checks();

    public static void main(String[] args) {
        PadeTest test = new PadeTest();
        test.wrongArguments();
        test.zeroSeries();
        test.geometricSeries();
        test.exponentialSeries();
        test.blocks();
        test.lateStart();
        test.rationalFunction();
        test.values();
        test.normalCounts();
        test.smallestField();
        test.noAnswerFromBefore();
        test.checks.end();
    }

    /** Compares an approximant with its numerator and its denominator. */
    private void is(PadeWorkbench w, int m, int n, int[] top, int[] bottom) {
        String where = "[" + m + "/" + n + "]";
        checks.due(where + " numeratorDegree", w.numeratorDegree(0, m, n), top.length - 1);
        checks.due(where + " denominatorDegree", w.denominatorDegree(0, m, n), bottom.length - 1);
        for (int k = 0; k < 16; k++) {
            int above = k < top.length ? top[k] : 0;
            int below = k < bottom.length ? bottom[k] : 0;
            checks.due(where + " numerator " + k, w.numerator(0, m, n, k), above);
            checks.due(where + " denominator " + k, w.denominator(0, m, n, k), below);
        }
    }

    private void measures(PadeWorkbench w, int m, int n, int order, int block) {
        checks.due("[" + m + "/" + n + "] order", w.order(0, m, n), order);
        checks.due("[" + m + "/" + n + "] blockSize", w.blockSize(0, m, n), block);
    }

    private static int[] row(int... numbers) {
        return numbers;
    }

    private void wrongArguments() {
        PadeWorkbench w = Checks.with(101, "1/1-x");
        int errors = 0;
        for (int[] bad : NO_APPROXIMANTS) {
            int slot = bad[0];
            int m = bad[1];
            int n = bad[2];
            checks.due("numeratorDegree", w.numeratorDegree(slot, m, n), INVALID);
            checks.due("denominatorDegree", w.denominatorDegree(slot, m, n), INVALID);
            checks.due("numerator", w.numerator(slot, m, n, 0), INVALID);
            checks.due("denominator", w.denominator(slot, m, n, 0), INVALID);
            checks.due("order", w.order(slot, m, n), INVALID);
            checks.due("blockSize", w.blockSize(slot, m, n), INVALID);
            checks.due("evaluate", w.evaluate(slot, m, n, 0), INVALID);
            errors += 7;
        }
        for (int bad : new int[] {-1, 16, Integer.MIN_VALUE, Integer.MAX_VALUE}) {
            checks.due("numerator at " + bad, w.numerator(0, 0, 0, bad), INVALID);
            checks.due("denominator at " + bad, w.denominator(0, 0, 0, bad), INVALID);
            checks.due("normalCount of the sum " + bad, w.normalCount(0, bad), INVALID);
            checks.due("normalCount in " + bad, w.normalCount(bad == 16 ? 4 : bad, 0), INVALID);
            errors += 4;
        }
        for (int bad : new int[] {-1, 101, Integer.MIN_VALUE, Integer.MAX_VALUE}) {
            // At 1 the denominator is 0, but with a wrong x the answer is not NONE.
            checks.due("evaluate at " + bad, w.evaluate(0, 0, 1, bad), INVALID);
            errors++;
        }
        checks.due("errors", w.errorCount(0), errors);
        checks.due("asking saves nothing", w.undo(), 1);
    }

    private void zeroSeries() {
        PadeWorkbench w = new PadeWorkbench();
        for (int m = 0; m < 16; m++) {
            for (int n = 0; m + n < 16; n++) {
                checks.due("numeratorDegree of 0", w.numeratorDegree(3, m, n), NONE);
                checks.due("denominatorDegree of 0", w.denominatorDegree(3, m, n), 0);
            }
        }
        w = new PadeWorkbench();
        is(w, 0, 15, row(), row(1));
        measures(w, 0, 15, 16, NONE);
        is(w, 15, 0, row(), row(1));
        measures(w, 15, 0, 16, NONE);
        checks.due("value of 0", w.evaluate(0, 4, 4, 100), 0);
        checks.due("normalCount of 0", w.normalCount(0, 15), 0);
    }

    private void geometricSeries() {
        PadeWorkbench w = Checks.with(101, "3/1-2x");
        is(w, 0, 0, row(3), row(1));
        measures(w, 0, 0, 1, 0);
        is(w, 0, 1, row(3), row(1, 99));
        measures(w, 0, 1, 16, 14);
        is(w, 14, 1, row(3), row(1, 99));
        is(w, 0, 15, row(3), row(1, 99));
        is(w, 7, 8, row(3), row(1, 99));
        measures(w, 7, 8, 16, 14);
        is(w, 2, 0, row(3, 6, 12), row(1));
        measures(w, 2, 0, 3, 0);
    }

    private static PadeWorkbench exponential() {
        PadeWorkbench w = new PadeWorkbench();
        w.set(1, 0, 1);
        int factorial = 1;
        for (int k = 0; k < 16; k++) {
            factorial = k == 0 ? 1 : factorial * k % 101;
            int inverse = 1;
            while (inverse * factorial % 101 != 1) {
                inverse++;
            }
            w.set(0, k, inverse);
        }
        return w;
    }

    private void exponentialSeries() {
        PadeWorkbench w = exponential();
        // 1 / 2 is 51, 1 / 12 is 59, 1 / 3 is 34, 1 / 6 is 17.
        is(w, 1, 1, row(1, 51), row(1, 50));
        is(w, 2, 2, row(1, 51, 59), row(1, 50, 59));
        is(w, 1, 2, row(1, 34), row(1, 33, 17));
        measures(w, 1, 1, 3, 0);
        measures(w, 7, 8, 16, 0);
        measures(w, 15, 0, 16, 0);
        for (int s = 0; s < 16; s++) {
            checks.due("normalCount of exp " + s, w.normalCount(0, s), s + 1);
        }
    }

    private void blocks() {
        PadeWorkbench w = Checks.with(101, "1+x^4");
        for (int m = 0; m < 4; m++) {
            for (int n = 0; n < 4; n++) {
                measures(w, m, n, 4, 3);
                checks.due("degree in the block of 1", w.numeratorDegree(0, m, n), 0);
            }
        }
        is(w, 3, 3, row(1), row(1));
        is(w, 4, 0, row(1, 0, 0, 0, 1), row(1));
        measures(w, 4, 0, 16, 11);
        is(w, 0, 4, row(1), row(1, 0, 0, 0, 100));
        measures(w, 0, 4, 8, 3);
        measures(w, 3, 7, 8, 3);
        measures(w, 3, 8, 12, 3);
        is(w, 0, 8, row(1), row(1, 0, 0, 0, 100, 0, 0, 0, 1));
        checks.due("normalCount 0", w.normalCount(0, 0), 0);
        checks.due("normalCount 6", w.normalCount(0, 6), 0);
    }

    private void lateStart() {
        PadeWorkbench w = Checks.with(7, "3x^2/1-x");
        is(w, 0, 0, row(), row(1));
        measures(w, 0, 0, 2, NONE);
        is(w, 1, 9, row(), row(1));
        measures(w, 1, 9, 2, NONE);
        is(w, 2, 0, row(0, 0, 3), row(1));
        measures(w, 2, 0, 3, 0);
        is(w, 2, 1, row(0, 0, 3), row(1, 6));
        measures(w, 6, 9, 16, 12);
        checks.due("value", w.evaluate(0, 2, 1, 2), 2);
        checks.due("pole", w.evaluate(0, 2, 1, 1), NONE);
        w = Checks.with(7, "x^15");
        is(w, 14, 1, row(), row(1));
        measures(w, 14, 1, 15, NONE);
        is(w, 15, 0, row(0, 0, 0, 0, 0, 0, 0, 0, 0, 0, 0, 0, 0, 0, 0, 1), row(1));
        measures(w, 15, 0, 16, 0);
        checks.due("normalCount of x^15", w.normalCount(0, 15), 1);
        checks.due("normalCount of x^15 at 14", w.normalCount(0, 14), 0);
    }

    private void rationalFunction() {
        PadeWorkbench w = Checks.with(101, "2+x^2/1+3x+x^3");
        is(w, 2, 3, row(2, 0, 1), row(1, 3, 0, 1));
        measures(w, 2, 3, 16, 10);
        is(w, 8, 7, row(2, 0, 1), row(1, 3, 0, 1));
        measures(w, 5, 10, 16, 10);
        is(w, 1, 0, row(2, 95), row(1));
        measures(w, 1, 0, 2, 0);
        // A disturbance in c15 leaves what needs only the coefficients before it.
        w.set(0, 15, (w.coefficient(0, 15) + 1) % 101);
        measures(w, 2, 3, 15, 9);
        is(w, 11, 3, row(2, 0, 1), row(1, 3, 0, 1));
        checks.due("degree with c15", w.numeratorDegree(0, 12, 3), 12);
    }

    private void values() {
        PadeWorkbench w = Checks.with(101, "1/1-x");
        checks.due("value at 0", w.evaluate(0, 0, 1, 0), 1);
        checks.due("value at 1", w.evaluate(0, 0, 1, 1), NONE);
        checks.due("value at 2", w.evaluate(0, 0, 1, 2), 100);
        checks.due("value at 100", w.evaluate(0, 0, 1, 100), 51);
        checks.due("value of 1 + x + x^2 at 10", w.evaluate(0, 2, 0, 10), 10);
        w = Checks.with(101, "1-x/1+x");
        checks.due("a value of 0", w.evaluate(0, 1, 1, 1), 0);
        checks.due("NONE is not counted", w.errorCount(0), 0);
    }

    private void normalCounts() {
        PadeWorkbench w = Checks.with(7, "1+2x+3x^2/1+x^2");
        checks.due("normalCount 0", w.normalCount(0, 0), 1);
        checks.due("normalCount 4", w.normalCount(0, 4), 3);
        w = Checks.with(101, "1/1-x");
        checks.due("normalCount 1", w.normalCount(0, 1), 1);
        checks.due("normalCount 15", w.normalCount(0, 15), 1);
    }

    /** Each method computes its own approximant, whatever was asked before. */
    private void noAnswerFromBefore() {
        PadeWorkbench w = Checks.with(101, "3/1-2x");
        Checks.parse(w, 1, "7+x+x^9/1+5x+x^4");
        Checks.parse(w, 2, "x^2/1-x");
        w.order(1, 9, 4);
        checks.due("numeratorDegree", w.numeratorDegree(0, 0, 1), 0);
        w.order(1, 9, 4);
        checks.due("denominatorDegree", w.denominatorDegree(0, 0, 1), 1);
        w.order(1, 9, 4);
        checks.due("numerator", w.numerator(0, 0, 1, 0), 3);
        w.order(1, 9, 4);
        checks.due("denominator", w.denominator(0, 0, 1, 1), 99);
        w.numerator(1, 9, 4, 0);
        checks.due("order", w.order(0, 0, 1), 16);
        w.numerator(1, 9, 4, 0);
        checks.due("blockSize", w.blockSize(0, 0, 1), 14);
        w.numerator(1, 9, 4, 0);
        checks.due("evaluate", w.evaluate(0, 0, 1, 1), 98);
        w.numerator(1, 9, 4, 0);
        checks.due("a shorter start", w.denominatorDegree(2, 2, 1), 1);
    }

    private void smallestField() {
        PadeWorkbench w = Checks.with(2, "1+x/1+x+x^2");
        is(w, 1, 2, row(1, 1), row(1, 1, 1));
        measures(w, 1, 2, 16, 12);
        is(w, 0, 1, row(1), row(1));
        measures(w, 0, 1, 2, 1);
        checks.due("value at 1", w.evaluate(0, 1, 2, 1), 0);
        checks.due("value at 2", w.evaluate(0, 1, 2, 2), INVALID);
    }
}
