import java.util.ArrayList;
import java.util.List;
import java.util.function.Supplier;

/** The clauses of RATIONAL INTERPOLATION, and of promises 27 to 30 but for their argument lines. */
final class PointEdges {
    private static final int INVALID = -2;
    private static final int REJECTED = -3;
    private static final int FULL = -4;
    private static final int MAX = Integer.MAX_VALUE;
    private static final int MIN = Integer.MIN_VALUE;

    private final Checks checks;

    PointEdges(Checks checks) {
        this.checks = checks;
    }

    /** Points with their prime. */
    private record Sample(int p, int[][] points) {
        Supplier<PadeWorkbench> maker() {
            return Makers.points(p, points);
        }

        Interpolant with(int m) {
            return new Interpolant(this, m);
        }
    }

    /** All that the workbench tells of the interpolant with the numerator degree m. */
    private static final class Interpolant {
        final int[] top = new int[10];
        final int[] bottom = new int[10];
        final int missed;

        Interpolant(Sample sample, int m) {
            PadeWorkbench w = sample.maker().get();
            for (int k = 0; k < 10; k++) {
                top[k] = w.interpolant(m, 0, k);
                bottom[k] = w.interpolant(m, 1, k);
            }
            missed = w.unattainable(m);
        }

        boolean meets(int x, int y, int p) {
            int below = Poly.value(bottom, x, p);
            return below != 0 && below * y % p == Poly.value(top, x, p);
        }
    }

    private static Sample sample(int p, int... numbers) {
        int[][] points = new int[numbers.length / 2][];
        for (int i = 0; i < points.length; i++) {
            points[i] = new int[] {numbers[2 * i], numbers[2 * i + 1]};
        }
        return new Sample(p, points);
    }

    private static List<Sample> samples() {
        List<Sample> samples = new ArrayList<>(List.of(
                sample(2, 0, 0), sample(2, 1, 1), sample(2, 0, 0, 1, 1), sample(2, 1, 1, 0, 1), sample(2, 0, 1, 1, 0),
                sample(3, 0, 1, 1, 0, 2, 2), sample(7, 0, 0, 1, 0, 2, 0, 3, 5), sample(13, 1, 2, 2, 1, 3, 5, 4, 7),
                sample(101, 1, 1, 2, 1, 3, 2), sample(251, 250, 250, 0, 250, 7, 1)));
        for (int count = 1; count <= 10; count++) {
            int[] ones = new int[2 * count];
            int[] cubes = new int[2 * count];
            int[] zeros = new int[2 * count];
            for (int i = 0; i < count; i++) {
                ones[2 * i] = 9 - i;
                ones[2 * i + 1] = i == 4 ? 3 : 1;
                cubes[2 * i] = i * i * i % 11;
                cubes[2 * i + 1] = (7 * i + i * i) % 11;
                zeros[2 * i] = 25 * i;
                zeros[2 * i + 1] = i % 3 == 0 ? 0 : i;
            }
            samples.add(sample(11, ones));
            samples.add(sample(11, cubes));
            samples.add(sample(251, zeros));
        }
        return samples;
    }

    private interface EachInterpolant {
        void look(Sample sample, int m, Interpolant found);
    }

    private static void each(EachInterpolant looker) {
        for (Sample sample : samples()) {
            for (int m = 0; m < sample.points().length; m++) {
                looker.look(sample, m, sample.with(m));
            }
        }
    }

    private static String name(Sample sample, int m) {
        return "m = " + m + " of " + java.util.Arrays.deepToString(sample.points()) + " modulo " + sample.p();
    }

    private static int[] ten(int firstX) {
        int[] numbers = new int[20];
        for (int i = 0; i < 10; i++) {
            numbers[2 * i] = firstX + i;
            numbers[2 * i + 1] = i;
        }
        return numbers;
    }

    // ---- RATIONAL INTERPOLATION

    @Says(in = "RATIONAL INTERPOLATION", clause = "There is a list of at most 10 points (x, y)")
    void tenPoints() {
        for (int p : new int[] {11, 13, 101, 251}) {
            PadeWorkbench w = new PadeWorkbench();
            w.setPrime(p);
            for (int i = 0; i < 10; i++) {
                checks.due("point " + (i + 1), w.addPoint(p - 1 - i, i), i + 1);
            }
            checks.due("point 11", w.addPoint(0, 0), FULL);
            checks.due("the points", w.clearPoints(), 10);
        }
    }

    @Says(in = "RATIONAL INTERPOLATION", clause = "no two points have the same x")
    void differentPlaces() {
        for (int p : new int[] {2, 3, 7}) {
            PadeWorkbench w = new PadeWorkbench();
            w.setPrime(p);
            for (int x = 0; x < p; x++) {
                checks.due("a new x", w.addPoint(x, p - 1), x + 1);
                for (int old = 0; old <= x; old++) {
                    checks.due("an old x with its y", w.addPoint(old, p - 1), REJECTED);
                    checks.due("an old x with another y", w.addPoint(old, 0), REJECTED);
                }
            }
            checks.due("no more than the field has", w.clearPoints(), p);
        }
    }

    @Says(in = "RATIONAL INTERPOLATION", clause = "Let N be the number of points, at least 1, and m from 0 to N - 1")
    void numeratorDegrees() {
        PadeWorkbench w = new PadeWorkbench();
        for (int count = 0; count <= 10; count++) {
            for (int m = 0; m <= 10; m++) {
                checks.hold("m = " + m + " of " + count, w.unattainable(m) == INVALID != m < count);
                checks.hold("m = " + m + " of " + count, w.interpolant(m, 1, 9) == INVALID != m < count);
            }
            checks.due("m = -1", w.unattainable(-1), INVALID);
            w.addPoint(count, 5);
        }
    }

    @Says(in = "RATIONAL INTERPOLATION", clause = "There are polynomials A and B with the following properties: "
            + "B is not 0, the degree of A is at most m, the degree of B is at most N - 1 - m, "
            + "and B(x) * y = A(x) for each point")
    void properties() {
        each((sample, m, found) -> {
            // A and B are P and Q times the x - xi of those points that P / Q misses.
            int[] a = found.top;
            int[] b = found.bottom;
            for (int[] point : sample.points()) {
                if (!found.meets(point[0], point[1], sample.p())) {
                    int[] factor = {(sample.p() - point[0]) % sample.p(), 1};
                    a = Poly.times(a, factor, sample.p());
                    b = Poly.times(b, factor, sample.p());
                }
            }
            checks.hold(name(sample, m) + " degree of A", Poly.degree(a) <= m);
            checks.hold(name(sample, m) + " degree of B", Poly.degree(b) <= sample.points().length - 1 - m);
            checks.hold(name(sample, m) + " B is not 0", Poly.degree(b) >= 0);
            for (int[] point : sample.points()) {
                checks.due(name(sample, m) + " at " + point[0],
                        Poly.value(b, point[0], sample.p()) * point[1] % sample.p(),
                        Poly.value(a, point[0], sample.p()));
            }
        });
    }

    /** The fraction does not depend on the order of the points. */
    @Says(in = "RATIONAL INTERPOLATION", clause = "All pairs with these properties give the same fraction A / B")
    void oneFraction() {
        each((sample, m, found) -> {
            int[][] turned = sample.points().clone();
            for (int i = 0; i < turned.length; i++) {
                turned[i] = sample.points()[turned.length - 1 - i];
            }
            Interpolant other = new Sample(sample.p(), turned).with(m);
            checks.hold(name(sample, m) + " turned", java.util.Arrays.equals(found.top, other.top)
                    && java.util.Arrays.equals(found.bottom, other.bottom) && found.missed == other.missed);
        });
    }

    @Says(in = "RATIONAL INTERPOLATION", clause = "In lowest terms, with the lowest coefficient of the denominator "
            + "that is not 0 made 1, this fraction P / Q is the rational interpolant with numerator degree m")
    void lowestTerms() {
        each((sample, m, found) -> {
            int lowest = 0;
            while (lowest < 9 && found.bottom[lowest] == 0) {
                lowest++;
            }
            checks.due(name(sample, m) + " lowest coefficient", found.bottom[lowest], 1);
            int[] common = Poly.common(found.bottom, found.top, sample.p());
            checks.due(name(sample, m) + " common factor", Poly.degree(common), 0);
        });
        // 2 / x, and 9 / x^2: the lowest coefficient is not the constant term.
        Supplier<PadeWorkbench> maker = sample(13, 1, 2, 2, 1, 3, 5, 4, 7).maker();
        new Twins(checks, maker).ask(0, Call.INTERPOLANT, 1, 1, 0);
        new Twins(checks, maker).ask(1, Call.INTERPOLANT, 1, 1, 1);
        new Twins(checks, maker).ask(2, Call.INTERPOLANT, 1, 0, 0);
        maker = sample(13, 1, 9, 2, 12, 3, 1, 4, 3).maker();
        new Twins(checks, maker).ask(9, Call.INTERPOLANT, 0, 0, 0);
        new Twins(checks, maker).ask(1, Call.INTERPOLANT, 0, 1, 2);
    }

    @Says(in = "RATIONAL INTERPOLATION", clause = "If P is 0, Q is 1")
    void zeroOverOne() {
        for (Sample sample : List.of(sample(101, 7, 0), sample(13, 1, 0, 2, 0, 3, 5), sample(2, 0, 0, 1, 0),
                sample(13, 0, 0, 1, 1, 2, 0, 3, 1))) {
            int m = (sample.points().length - 1) / 2;
            for (int k = 0; k < 10; k++) {
                new Twins(checks, sample.maker()).ask(0, Call.INTERPOLANT, m, 0, k);
                new Twins(checks, sample.maker()).ask(k == 0 ? 1 : 0, Call.INTERPOLANT, m, 1, k);
            }
        }
    }

    @Says(in = "RATIONAL INTERPOLATION", clause = "A point is unattainable if Q(x) is 0 or P(x) / Q(x) is not y")
    void missedPoints() {
        each((sample, m, found) -> {
            int missed = 0;
            for (int[] point : sample.points()) {
                missed += found.meets(point[0], point[1], sample.p()) ? 0 : 1;
            }
            checks.due(name(sample, m) + " unattainable", found.missed, missed);
        });
        // 1 / (x - 3), with any y at its pole
        for (int y : new int[] {0, 1, 5, 12}) {
            Sample pole = sample(13, 3, y, 4, 1, 5, 7, 6, 9);
            new Twins(checks, pole.maker()).ask(1, Call.UNATTAINABLE, 1);
            // Q is -(x - 3) / 3, so that its constant term is 1.
            new Twins(checks, pole.maker()).ask(4, Call.INTERPOLANT, 1, 1, 1);
        }
        // Another value than y: 1 goes through two of the three.
        new Twins(checks, sample(101, 1, 1, 2, 1, 3, 2).maker()).ask(1, Call.UNATTAINABLE, 1);
        new Twins(checks, sample(101, 1, 1, 2, 1, 3, 0).maker()).ask(1, Call.UNATTAINABLE, 1);
    }

    // ---- Promise 27

    @Says(in = "Promise 27", clause = "Adds a point")
    void addPointAdds() {
        PadeWorkbench w = new PadeWorkbench();
        w.addPoint(0, 100);
        checks.due("P through the first", w.interpolant(0, 0, 0), 100);
        w.addPoint(100, 0);
        // 100 + 100 x
        checks.due("P through both at 0", w.interpolant(1, 0, 0), 100);
        checks.due("P through both at 1", w.interpolant(1, 0, 1), 100);
    }

    @Says(in = "Promise 27", clause = "Returns the number of points")
    void addPointCounts() {
        PadeWorkbench w = new PadeWorkbench();
        for (int i = 1; i <= 10; i++) {
            checks.due("addPoint", w.addPoint(i, i), i);
            checks.due("a refused point", w.addPoint(i, i), REJECTED);
        }
        w.undo();
        checks.due("after undo", w.addPoint(50, 0), 10);
        w.clearPoints();
        checks.due("after clearPoints", w.addPoint(50, 0), 1);
        w.setPrime(2);
        checks.due("after setPrime", w.addPoint(1, 0), 1);
    }

    @Says(in = "Promise 27", clause = "REJECTED if there is a point with this x")
    void addPointRejects() {
        for (int x : new int[] {0, 12, 7}) {
            for (int y : new int[] {0, 4, 7, 12}) {
                new Twins(checks, Makers::busy).refuse(REJECTED, Call.ADD_POINT, x, y);
            }
        }
        // 4 is the y of a point, but no x.
        new Twins(checks, Makers::busy).allow(4, Call.ADD_POINT, 4, 4);
        new Twins(checks, () -> {
            PadeWorkbench w = Makers.busy();
            w.clearPoints();
            return w;
        }).allow(1, Call.ADD_POINT, 0, 4);
        new Twins(checks, () -> {
            PadeWorkbench w = Makers.busy();
            w.undo();
            return w;
        }).allow(3, Call.ADD_POINT, 7, 7);
    }

    @Says(in = "Promise 27", clause = "FULL if there are 10 points")
    void addPointToTen() {
        for (int x : new int[] {1, 55, 100}) {
            new Twins(checks, Makers::full).refuse(FULL, Call.ADD_POINT, x, 0);
        }
        new Twins(checks, () -> {
            PadeWorkbench w = Makers.full();
            w.undo();
            return w;
        }).allow(10, Call.ADD_POINT, 1, 0);
        PadeWorkbench w = Makers.full();
        w.addPoint(1, 1);
        checks.due("the refused x is still free", w.undo() + w.addPoint(1, 1), 3 + 10);
    }

    // ---- Promise 28

    @Says(in = "Promise 28", clause = "Removes all points")
    void clearPointsRemoves() {
        for (int count : new int[] {0, 1, 9, 10}) {
            PadeWorkbench w = new PadeWorkbench();
            for (int x = 0; x < count; x++) {
                w.addPoint(x, 1);
            }
            w.clearPoints();
            checks.due("no interpolant is left", w.unattainable(0), INVALID);
            checks.due("every x is free", w.addPoint(0, 2), 1);
            checks.due("nothing of the old points is left", w.interpolant(0, 0, 0), 2);
        }
    }

    @Says(in = "Promise 28", clause = "Returns the number of points that were removed")
    void clearPointsCounts() {
        for (int count = 0; count <= 10; count++) {
            PadeWorkbench w = new PadeWorkbench();
            for (int x = 0; x < count; x++) {
                w.addPoint(x, 1);
            }
            checks.due("clearPoints", w.clearPoints(), count);
            checks.due("clearPoints again", w.clearPoints(), 0);
        }
        PadeWorkbench w = Makers.full();
        w.addPoint(1, 1);
        checks.due("the eleventh was refused", w.clearPoints(), 10);
    }

    // ---- Promise 29

    @Says(in = "Promise 29", clause = "Returns a coefficient of a rational interpolant")
    void interpolants() {
        // (x + 1) / (x + 3) modulo 7, which is (5 + 5x) / (1 + 5x)
        Supplier<PadeWorkbench> maker = sample(7, 0, 5, 1, 4, 2, 2, 3, 3).maker();
        for (int k = 0; k < 10; k++) {
            for (int m = 1; m <= 2; m++) {
                new Twins(checks, maker).ask(k < 2 ? 5 : 0, Call.INTERPOLANT, m, 0, k);
                new Twins(checks, maker).ask(k == 0 ? 1 : k == 1 ? 5 : 0, Call.INTERPOLANT, m, 1, k);
            }
        }
    }

    @Says(in = "Promise 29", clause = "Returns the coefficient of x^index")
    void lastCoefficients() {
        int[] ninth = new int[20];
        int[] inverse = new int[20];
        for (int i = 0; i < 10; i++) {
            int power = 1;
            for (int k = 0; k < 9; k++) {
                power = power * i % 103;
            }
            ninth[2 * i] = i;
            ninth[2 * i + 1] = power;
            inverse[2 * i] = i + 1;
            inverse[2 * i + 1] = Poly.inverse(Poly.value(Poly.power(9), i + 1, 103), 103);
        }
        // x^9 and 1 / x^9: no higher degree can be.
        for (int k = 0; k < 10; k++) {
            new Twins(checks, sample(103, ninth).maker()).ask(k == 9 ? 1 : 0, Call.INTERPOLANT, 9, 0, k);
            new Twins(checks, sample(103, inverse).maker()).ask(k == 9 ? 1 : 0, Call.INTERPOLANT, 0, 1, k);
            new Twins(checks, sample(103, inverse).maker()).ask(k == 0 ? 1 : 0, Call.INTERPOLANT, 0, 0, k);
        }
    }

    @Says(in = "Promise 29", clause = "INVALID if an argument is out of range (always if there are no points)")
    void noInterpolantWithoutPoints() {
        for (int m : new int[] {0, 1, 9, 10, -1, MIN, MAX}) {
            new Twins(checks, Makers.fresh()).refuse(INVALID, Call.INTERPOLANT, m, 0, 0);
            new Twins(checks, Makers.fresh()).refuse(INVALID, Call.INTERPOLANT, m, 1, 9);
            new Twins(checks, () -> {
                PadeWorkbench w = Makers.full();
                w.clearPoints();
                return w;
            }).refuse(INVALID, Call.INTERPOLANT, m, 0, 0);
        }
        for (int m : new int[] {1, -1, MIN, MAX}) {
            new Twins(checks, sample(2, 1, 1).maker()).refuse(INVALID, Call.INTERPOLANT, m, 0, 0);
        }
        new Twins(checks, sample(2, 1, 1).maker()).ask(1, Call.INTERPOLANT, 0, 0, 0);
    }

    // ---- Promise 30

    @Says(in = "Promise 30", clause = "Counts the unattainable points of a rational interpolant")
    void unattainables() {
        new Twins(checks, sample(101, ten(3)).maker()).ask(0, Call.UNATTAINABLE, 9);
        new Twins(checks, sample(101, 1, 5, 2, 5, 3, 5, 4, 6, 5, 5).maker()).ask(1, Call.UNATTAINABLE, 1);
        new Twins(checks, sample(101, 1, 5, 2, 5, 3, 5, 4, 6, 5, 5).maker()).ask(1, Call.UNATTAINABLE, 3);
        new Twins(checks, sample(101, 1, 5, 2, 5, 3, 5, 4, 6, 5, 5).maker()).ask(0, Call.UNATTAINABLE, 4);
    }

    @Says(in = "Promise 30", clause = "Returns the number of unattainable points")
    void fewestAndMost() {
        // One zero among ten points makes the numerator 0 where m is 0, and all others are missed.
        new Twins(checks, sample(101, ten(3)).maker()).ask(9, Call.UNATTAINABLE, 0);
        new Twins(checks, sample(101, 5, 5).maker()).ask(0, Call.UNATTAINABLE, 0);
        new Twins(checks, sample(101, 5, 0).maker()).ask(0, Call.UNATTAINABLE, 0);
        new Twins(checks, sample(2, 0, 0, 1, 1).maker()).ask(1, Call.UNATTAINABLE, 0);
    }

    @Says(in = "Promise 30", clause = "INVALID if m is out of range")
    void unattainableWithoutPoints() {
        for (int m : new int[] {0, 1, -1, MIN, MAX}) {
            new Twins(checks, Makers.fresh()).refuse(INVALID, Call.UNATTAINABLE, m);
        }
        for (int m : new int[] {10, 11, -1, MIN, MAX}) {
            new Twins(checks, Makers::full).refuse(INVALID, Call.UNATTAINABLE, m);
        }
        for (int m : new int[] {3, 4, -1, MIN, MAX}) {
            new Twins(checks, Makers::busy).refuse(INVALID, Call.UNATTAINABLE, m);
        }
    }
}
