/** Promises 27 to 30: points and rational interpolants. */
public final class PointsTest {
    private static final int INVALID = -2;
    private static final int REJECTED = -3;
    private static final int FULL = -4;

    private final Checks checks = new Checks();

    public static void main(String[] args) {
        PointsTest test = new PointsTest();
        test.adding();
        test.clearing();
        test.wrongArguments();
        test.polynomials();
        test.reciprocals();
        test.poleAtZero();
        test.unattainablePoints();
        test.unattainableAtBothEnds();
        test.zeroFraction();
        test.tenPoints();
        test.smallestField();
        test.checks.end();
    }

    private void adding() {
        PadeWorkbench w = new PadeWorkbench();
        w.setPrime(13);
        int[][] bad = {
            {-1, 0}, {0, -1}, {13, 0}, {0, 13}, {Integer.MIN_VALUE, 0}, {0, Integer.MIN_VALUE},
            {Integer.MAX_VALUE, 0}, {0, Integer.MAX_VALUE}
        };
        for (int[] pair : bad) {
            checks.due("addPoint" + pair[0] + " " + pair[1], w.addPoint(pair[0], pair[1]), INVALID);
        }
        for (int x = 0; x < 10; x++) {
            checks.due("addPoint", w.addPoint(12 - x, x), x + 1);
            checks.due("addPoint again", w.addPoint(12 - x, 12), REJECTED);
            checks.due("addPoint again with a wrong y", w.addPoint(12 - x, 13), INVALID);
        }
        checks.due("an eleventh point", w.addPoint(0, 0), FULL);
        checks.due("an eleventh point with an old x", w.addPoint(12, 0), REJECTED);
        checks.due("an eleventh point out of range", w.addPoint(13, 0), INVALID);
        checks.due("invalid", w.errorCount(0), bad.length + 11);
        checks.due("rejected", w.errorCount(1), 11);
        checks.due("full", w.errorCount(2), 1);
        checks.due("clearPoints", w.clearPoints(), 10);
    }

    private void clearing() {
        PadeWorkbench w = new PadeWorkbench();
        checks.due("clearPoints of none", w.clearPoints(), 0);
        checks.due("it is undoable", w.undo(), 0);
        w.addPoint(5, 6);
        w.addPoint(6, 6);
        checks.due("clearPoints of two", w.clearPoints(), 2);
        checks.due("an old x is free again", w.addPoint(5, 7), 1);
        w.undo();
        checks.due("undo of clearPoints", w.undo(), 2);
        checks.due("the points are back", w.addPoint(6, 1), REJECTED);
        checks.due("and can be removed again", w.clearPoints(), 2);
    }

    private void wrongArguments() {
        PadeWorkbench w = new PadeWorkbench();
        checks.due("interpolant without points", w.interpolant(0, 0, 0), INVALID);
        checks.due("unattainable without points", w.unattainable(0), INVALID);
        checks.due("unattainable of -1 without points", w.unattainable(-1), INVALID);
        w.addPoint(1, 1);
        w.addPoint(2, 1);
        for (int bad : new int[] {-1, 2, Integer.MIN_VALUE, Integer.MAX_VALUE}) {
            checks.due("interpolant of " + bad, w.interpolant(bad, 0, 0), INVALID);
            checks.due("unattainable of " + bad, w.unattainable(bad), INVALID);
            checks.due("interpolant's part " + bad, w.interpolant(0, bad, 0), INVALID);
            int index = bad == 2 ? 10 : bad;
            checks.due("interpolant at " + index, w.interpolant(0, 0, index), INVALID);
            checks.due("interpolant at " + index, w.interpolant(0, 1, index), INVALID);
        }
        checks.due("errors", w.errorCount(0), 23);
        checks.due("asking saves nothing", w.undo(), 1);
    }

    private void is(PadeWorkbench w, int m, int[] top, int[] bottom, int missed) {
        for (int k = 0; k < 10; k++) {
            int above = k < top.length ? top[k] : 0;
            int below = k < bottom.length ? bottom[k] : 0;
            checks.due("P for " + m + " at " + k, w.interpolant(m, 0, k), above);
            checks.due("Q for " + m + " at " + k, w.interpolant(m, 1, k), below);
        }
        checks.due("unattainable for " + m, w.unattainable(m), missed);
    }

    private static int[] row(int... numbers) {
        return numbers;
    }

    private void polynomials() {
        // y = x^2 + 1
        PadeWorkbench w = Checks.withPoints(13, new int[][] {{0, 1}, {1, 2}, {2, 5}, {3, 10}});
        is(w, 3, row(1, 0, 1), row(1), 0);
        is(w, 2, row(1, 0, 1), row(1), 0);
        w = Checks.withPoints(101, new int[][] {{7, 9}});
        is(w, 0, row(9), row(1), 0);
        w = Checks.withPoints(101, new int[][] {{7, 0}});
        is(w, 0, row(), row(1), 0);
        w = Checks.withPoints(101, new int[][] {{5, 3}, {9, 3}, {100, 3}});
        for (int m = 0; m < 3; m++) {
            is(w, m, row(3), row(1), 0);
        }
    }

    private void reciprocals() {
        // y = 3 / (x + 2): with the constant term 1 below, 3 * 7 / (1 + 7 x) modulo 13
        PadeWorkbench w = Checks.withPoints(13, new int[][] {{0, 8}, {1, 1}, {2, 4}});
        is(w, 0, row(8), row(1, 7), 0);
        is(w, 1, row(8), row(1, 7), 0);
        // (x + 1) / (x + 3) modulo 7
        w = Checks.withPoints(7, new int[][] {{0, 5}, {1, 4}, {2, 2}, {3, 3}});
        is(w, 1, row(5, 5), row(1, 5), 0);
        is(w, 2, row(5, 5), row(1, 5), 0);
    }

    private void poleAtZero() {
        // y = 2 / x: the lowest coefficient below that is not 0 is that of x.
        PadeWorkbench w = Checks.withPoints(13, new int[][] {{1, 2}, {2, 1}, {3, 5}, {4, 7}});
        is(w, 0, row(2), row(0, 1), 0);
        is(w, 1, row(2), row(0, 1), 0);
        is(w, 2, row(2), row(0, 1), 0);
        // y = 1 / (3 x^2)
        w = Checks.withPoints(13, new int[][] {{1, 9}, {2, 12}, {3, 1}, {4, 3}});
        is(w, 0, row(9), row(0, 0, 1), 0);
    }

    private void unattainablePoints() {
        // A / B with A = B = x - 3 goes through the rest, and misses (3, 2).
        PadeWorkbench w = Checks.withPoints(101, new int[][] {{1, 1}, {2, 1}, {3, 2}});
        is(w, 1, row(1), row(1), 1);
        checks.due("a line can't miss", w.unattainable(2), 0);
        // Four points of 5 and one other: B has the degree 2, and one root is at the other.
        w = Checks.withPoints(101, new int[][] {{1, 5}, {2, 5}, {3, 5}, {4, 6}, {5, 5}});
        is(w, 1, row(5), row(1), 1);
        is(w, 3, row(5), row(1), 1);
        is(w, 2, row(5), row(1), 1);
    }

    /** The missed point may be the first or the last, and what is left may have x in it. */
    private void unattainableAtBothEnds() {
        // y = 3 / (x + 2), which is 7 at 4, but for that point
        int[][] first = {{4, 1}, {0, 8}, {1, 1}, {2, 4}};
        int[][] last = {{0, 8}, {1, 1}, {2, 4}, {4, 1}};
        is(Checks.withPoints(13, first), 1, row(8), row(1, 7), 1);
        is(Checks.withPoints(13, last), 1, row(8), row(1, 7), 1);
        // y = (x + 1) / (x + 3), which is 6 at 5, but for that point
        first = new int[][] {{5, 0}, {0, 5}, {1, 4}, {2, 2}, {3, 3}};
        last = new int[][] {{0, 5}, {1, 4}, {2, 2}, {3, 3}, {5, 0}};
        is(Checks.withPoints(7, first), 2, row(5, 5), row(1, 5), 1);
        is(Checks.withPoints(7, last), 2, row(5, 5), row(1, 5), 1);
    }

    private void zeroFraction() {
        PadeWorkbench w = Checks.withPoints(13, new int[][] {{1, 0}, {2, 0}, {3, 5}});
        is(w, 0, row(), row(1), 1);
        is(w, 1, row(), row(1), 1);
        // 5 (x - 1) (x - 2) / 2
        is(w, 2, row(5, 12, 9), row(1), 0);
        w = Checks.withPoints(13, new int[][] {{0, 0}, {1, 1}, {2, 0}, {3, 1}});
        is(w, 1, row(), row(1), 2);
    }

    private void tenPoints() {
        // Modulo 103 the sum 1 + x + ... + x^9 has no root among 0 to 9.
        int[][] points = new int[10][];
        for (int x = 0; x < 10; x++) {
            int y = 1;
            for (int k = 0; k < 9; k++) {
                y = (y * x + 1) % 103;
            }
            points[x] = new int[] {x, y};
        }
        PadeWorkbench w = Checks.withPoints(103, points);
        is(w, 9, row(1, 1, 1, 1, 1, 1, 1, 1, 1, 1), row(1), 0);
        for (int x = 0; x < 10; x++) {
            int inverse = 1;
            while (inverse * points[x][1] % 103 != 1) {
                inverse++;
            }
            points[x][1] = inverse;
        }
        w = Checks.withPoints(103, points);
        is(w, 0, row(1), row(1, 1, 1, 1, 1, 1, 1, 1, 1, 1), 0);
    }

    private void smallestField() {
        PadeWorkbench w = Checks.withPoints(2, new int[][] {{0, 0}, {1, 1}});
        is(w, 0, row(), row(1), 1);
        is(w, 1, row(0, 1), row(1), 0);
        checks.due("no third point", w.addPoint(2, 0), INVALID);
        w = Checks.withPoints(2, new int[][] {{1, 1}, {0, 1}});
        is(w, 0, row(1), row(1), 0);
    }
}
