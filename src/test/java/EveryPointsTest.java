import java.util.Arrays;

/**
 * All sets of points over the fields of 2, 3 and 5 elements: each interpolant is held against what
 * the document asks of it, with no second way to compute it.
 */
public final class EveryPointsTest {
    private static final int COEFFICIENTS = 10;

    private final Checks checks;
    private final int p;
    private final int[][] points;

    private EveryPointsTest(Checks checks, int p, int number) {
        this.checks = checks;
        this.p = p;
        this.points = points(p, number);
    }

    public static void main(String[] args) {
        Checks checks = new Checks();
        for (int p : new int[] {2, 3, 5}) {
            int sets = 1;
            for (int x = 0; x < p; x++) {
                sets *= p + 1;
            }
            for (int number = 0; number < sets; number++) {
                new EveryPointsTest(checks, p, number).look();
            }
        }
        checks.end();
    }

    /** A digit of the number for each x: y, or p if there is no point. */
    private static int[][] points(int p, int number) {
        int[][] points = new int[p][];
        int count = 0;
        int rest = number;
        for (int x = 0; x < p; x++) {
            if (rest % (p + 1) < p) {
                points[count] = new int[] {x, rest % (p + 1)};
                count++;
            }
            rest /= p + 1;
        }
        return Arrays.copyOf(points, count);
    }

    private void look() {
        for (int m = 0; m < points.length; m++) {
            PadeWorkbench w = Checks.withPoints(p, points);
            int[] top = part(w, m, 0);
            int[] bottom = part(w, m, 1);
            int missed = missed(top, bottom);
            checks.due(name("unattainable", m), w.unattainable(m), missed);
            isLowest(m, top, bottom);
            // Times x - xi for each point missed, P and Q are a pair A and B.
            checks.hold(name("degree of A", m), top.length == 0 || Poly.degree(top) + missed <= m);
            checks.hold(name("degree of B", m), Poly.degree(bottom) + missed <= points.length - 1 - m);
        }
        PadeWorkbench w = Checks.withPoints(p, points);
        checks.due(name("one more", points.length), w.unattainable(points.length), PadeWorkbench.INVALID);
    }

    private String name(String what, int m) {
        return what + " with m = " + m + " modulo " + p + " through " + Arrays.deepToString(points);
    }

    private static int[] part(PadeWorkbench w, int m, int part) {
        int[] row = new int[COEFFICIENTS];
        for (int k = 0; k < COEFFICIENTS; k++) {
            row[k] = w.interpolant(m, part, k);
        }
        return Poly.trim(row);
    }

    private int missed(int[] top, int[] bottom) {
        int count = 0;
        for (int[] point : points) {
            int below = Poly.value(bottom, point[0], p);
            boolean met = below != 0 && Poly.value(top, point[0], p) == below * point[1] % p;
            count += met ? 0 : 1;
        }
        return count;
    }

    private void isLowest(int m, int[] top, int[] bottom) {
        boolean lowest = top.length == 0 ? bottom.length == 1 : Poly.degree(Poly.common(top, bottom, p)) == 0;
        checks.hold(name("lowest terms", m), lowest);
        int first = 0;
        while (first < bottom.length && bottom[first] == 0) {
            first++;
        }
        checks.hold(name("Q begins with 1", m), first < bottom.length && bottom[first] == 1);
    }
}
