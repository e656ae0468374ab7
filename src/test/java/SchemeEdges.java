import java.util.function.Supplier;

/**
 * The clauses of TOEPLITZ DETERMINANTS, QUOTIENT-DIFFERENCE SCHEME, EUCLIDEAN QUOTIENTS and LINEAR
 * RECURRENCES, and of promises 21 to 26 but for their argument lines.
 */
final class SchemeEdges {
    private static final int NONE = -1;
    private static final int INVALID = -2;
    private static final int MAX = Integer.MAX_VALUE;
    private static final int MIN = Integer.MIN_VALUE;
    /** No number of its scheme is undefined, and none is 0. */
    private static final int[] CATALAN = catalan();

    private final Checks checks;

    SchemeEdges(Checks checks) {
        this.checks = checks;
    }

    private static int[] catalan() {
        int[] row = new int[16];
        long number = 1;
        for (int k = 0; k < 16; k++) {
            row[k] = (int) (number % 101);
            number = number * (4 * k + 2) / (k + 2);
        }
        return row;
    }

    private static int[] mixed(int p) {
        int[] row = new int[16];
        for (int k = 0; k < 16; k++) {
            row[k] = (k * k * k + 5 * k + 3) % p;
        }
        return row;
    }

    // ---- TOEPLITZ DETERMINANTS

    /** By the sum over all ways to take one entry of each row and column. */
    private static int leibniz(int[] c, int m, int n, int row, int used, int p) {
        if (row == n) {
            return 1;
        }
        int sum = 0;
        int sign = 1;
        for (int j = 0; j < n; j++) {
            if ((used >> j & 1) == 0) {
                int entry = m + row - j < 0 ? 0 : c[m + row - j];
                sum += sign * entry * leibniz(c, m, n, row + 1, used | 1 << j, p) % p;
                sign = -sign;
            }
        }
        return Math.floorMod(sum, p);
    }

    @Says(in = "TOEPLITZ DETERMINANTS", clause = "The determinant D(m, n) of a series is the determinant of the "
            + "matrix with n rows and n columns whose entry in row i and column j (i and j from 0 to n - 1) is the "
            + "coefficient with the index m + i - j, or 0 if this index is negative")
    void determinants() {
        int[][] rows = {mixed(101), CATALAN, {0, 1, 0, 0, 7, 0, 5}, {0, 0, 3, 1, 1, 0, 0, 0, 2, 0, 0, 0, 0, 0, 0, 9}};
        for (int[] row : rows) {
            int[] c = java.util.Arrays.copyOf(row, 16);
            PadeWorkbench w = Makers.row(101, c).get();
            for (int n = 0; n <= 6; n++) {
                for (int m = 0; m + n <= 16; m++) {
                    checks.due("D(" + m + ", " + n + ")", w.determinant(0, m, n), leibniz(c, m, n, 0, 0, 101));
                }
            }
        }
        // Above the diagonal all indices are negative: D(0, n) is c0^n.
        PadeWorkbench w = Makers.row(101, CATALAN).get();
        w.set(0, 0, 2);
        int power = 1;
        for (int n = 0; n <= 16; n++) {
            checks.due("D(0, " + n + ")", w.determinant(0, 0, n), power);
            power = 2 * power % 101;
        }
    }

    /** The large ones: D(m, n) of f is D(n, m) of 1 / f(-x) if c0 is 1 (Jacobi and Trudi). */
    @Says(in = "TOEPLITZ DETERMINANTS", clause = "The determinant D(m, n) of a series is the determinant of the "
            + "matrix with n rows and n columns whose entry in row i and column j (i and j from 0 to n - 1) is the "
            + "coefficient with the index m + i - j, or 0 if this index is negative")
    void largeDeterminants() {
        for (int p : new int[] {2, 3, 101, 251}) {
            int[] c = mixed(p);
            c[0] = 1;
            int[] turned = c.clone();
            for (int k = 1; k < 16; k += 2) {
                turned[k] = (p - c[k]) % p;
            }
            int[] dual = Poly.series(new int[] {1}, turned, p);
            PadeWorkbench w = Makers.row(p, c).get();
            for (int m = 0; m <= 6; m++) {
                for (int n = 7; m + n <= 16; n++) {
                    checks.due("D(" + m + ", " + n + ") modulo " + p,
                            w.determinant(0, m, n), leibniz(dual, n, m, 0, 0, p));
                }
            }
        }
    }

    @Says(in = "TOEPLITZ DETERMINANTS", clause = "D(m, 0) is 1")
    void emptyDeterminant() {
        for (int m = 0; m <= 16; m++) {
            new Twins(checks, Makers.fresh()).ask(1, Call.DETERMINANT, 0, m, 0);
            new Twins(checks, Makers.row(2, 0, 1)).ask(1, Call.DETERMINANT, 0, m, 0);
        }
    }

    // ---- Promise 21

    @Says(in = "Promise 21", clause = "Returns the determinant D(m, n) of a series")
    void determinantsAtTheEdge() {
        Supplier<PadeWorkbench> maker = Makers.row(101, 2, 0, 0, 0, 0, 0, 0, 0, 0, 0, 0, 0, 0, 0, 0, 3);
        new Twins(checks, maker).ask(3, Call.DETERMINANT, 0, 15, 1);
        new Twins(checks, maker).ask(88, Call.DETERMINANT, 0, 0, 16);
        new Twins(checks, maker).ask(1, Call.DETERMINANT, 0, 16, 0);
        // c1 to c14 are 0, and so are all but the corners, c0 and c15: D(1, 15) has 2^14 * 3.
        new Twins(checks, maker).ask(66, Call.DETERMINANT, 0, 1, 15);
    }

    @Says(in = "Promise 21", clause = "Returns the determinant")
    void determinantsThatVanish() {
        new Twins(checks, Makers.fresh()).ask(0, Call.DETERMINANT, 0, 0, 1);
        new Twins(checks, Makers.fresh()).ask(0, Call.DETERMINANT, 0, 0, 16);
        new Twins(checks, Makers.series(101, "1/1-x")).ask(0, Call.DETERMINANT, 0, 1, 15);
        new Twins(checks, Makers.series(2, "1+x^2")).ask(1, Call.DETERMINANT, 0, 1, 2);
    }

    @Says(in = "Promise 21", clause = "n: 0 or more, m + n at most 16")
    void sumOfSizes() {
        for (int m = 0; m <= 16; m++) {
            new Twins(checks, Makers.row(101, 1)).ask(m == 0 || m == 16 ? 1 : 0, Call.DETERMINANT, 0, m, 16 - m);
            new Twins(checks, Makers.row(101, 1)).refuse(INVALID, Call.DETERMINANT, 0, m, 17 - m);
        }
        int[][] pairs = {
            {17, 0}, {17, -1}, {-1, 17}, {18, -2}, {MAX, 1}, {1, MAX}, {MAX, MAX}, {MIN, MIN}, {MAX, MIN},
            {MIN, MAX}, {1 << 30, 1 << 30}, {-1, -1}
        };
        for (int[] pair : pairs) {
            new Twins(checks, Makers::busy).refuse(INVALID, Call.DETERMINANT, 0, pair[0], pair[1]);
        }
    }

    // ---- QUOTIENT-DIFFERENCE SCHEME

    private static int q(PadeWorkbench w, int j, int k) {
        return w.quotientDifference(0, 0, j, k);
    }

    private static int e(PadeWorkbench w, int j, int k) {
        return w.quotientDifference(0, 1, j, k);
    }

    @Says(in = "QUOTIENT-DIFFERENCE SCHEME", clause = "The scheme of a series has the numbers q(j, k) for j from 1 on "
            + "and e(j, k) for j from 0 on, k from 0 on:")
    void firstOfTheScheme() {
        Supplier<PadeWorkbench> maker = Makers.row(101, CATALAN);
        new Twins(checks, maker).ask(1, Call.QUOTIENT_DIFFERENCE, 0, 0, 1, 0);
        new Twins(checks, maker).ask(1, Call.QUOTIENT_DIFFERENCE, 0, 1, 1, 0);
        for (int kind = 0; kind < 2; kind++) {
            // Though e(0, k) is a number, the method takes j from 1 on.
            new Twins(checks, maker).refuse(INVALID, Call.QUOTIENT_DIFFERENCE, 0, kind, 0, 0);
            new Twins(checks, maker).refuse(INVALID, Call.QUOTIENT_DIFFERENCE, 0, kind, 1, -1);
        }
    }

    @Says(in = "QUOTIENT-DIFFERENCE SCHEME", clause = "e(0, k) = 0")
    void nothingBeforeTheFirstDifference() {
        PadeWorkbench w = Makers.row(101, CATALAN).get();
        for (int k = 0; k <= 13; k++) {
            checks.due("e(1, " + k + ")", e(w, 1, k), Math.floorMod(q(w, 1, k + 1) - q(w, 1, k), 101));
        }
    }

    @Says(in = "QUOTIENT-DIFFERENCE SCHEME", clause = "q(1, k) = c(k + 1) / c(k)")
    void firstQuotients() {
        PadeWorkbench w = Makers.row(101, CATALAN).get();
        for (int k = 0; k <= 14; k++) {
            checks.due("q(1, " + k + ")", q(w, 1, k), CATALAN[k + 1] * Poly.inverse(CATALAN[k], 101) % 101);
        }
        checks.due("0 above", q(Makers.row(101, 5).get(), 1, 0), 0);
        checks.due("0 below", q(Makers.row(101, 0, 5).get(), 1, 0), NONE);
    }

    @Says(in = "QUOTIENT-DIFFERENCE SCHEME", clause = "e(j, k) = q(j, k + 1) - q(j, k) + e(j - 1, k + 1) "
            + "for j from 1 on")
    void differences() {
        for (int j = 2; j <= 7; j++) {
            PadeWorkbench w = Makers.row(101, CATALAN).get();
            for (int k = 0; k + 2 * j <= 15; k++) {
                int want = Math.floorMod(q(w, j, k + 1) - q(w, j, k) + e(w, j - 1, k + 1), 101);
                checks.due("e(" + j + ", " + k + ")", e(w, j, k), want);
            }
        }
    }

    @Says(in = "QUOTIENT-DIFFERENCE SCHEME", clause = "q(j + 1, k) = q(j, k + 1) * e(j, k + 1) / e(j, k)")
    void quotientsOfDifferences() {
        for (int j = 1; j <= 7; j++) {
            PadeWorkbench w = Makers.row(101, CATALAN).get();
            for (int k = 0; k + 2 * j + 1 <= 15; k++) {
                int want = q(w, j, k + 1) * e(w, j, k + 1) % 101 * Poly.inverse(e(w, j, k), 101) % 101;
                checks.due("q(" + (j + 1) + ", " + k + ")", q(w, j + 1, k), want);
            }
        }
    }

    @Says(in = "QUOTIENT-DIFFERENCE SCHEME", clause = "The number q(j, k) needs the coefficients up to the index "
            + "k + 2j - 1, and e(j, k) those up to k + 2j")
    void neededCoefficients() {
        for (int kind = 0; kind < 2; kind++) {
            for (int j = 1; 2 * j - 1 + kind <= 15; j++) {
                for (int k = 0; k + 2 * j - 1 + kind <= 15; k++) {
                    needsUpTo(kind, j, k, k + 2 * j - 1 + kind);
                }
            }
        }
    }

    private void needsUpTo(int kind, int j, int k, int last) {
        String where = (kind == 0 ? "q(" : "e(") + j + ", " + k + ")";
        PadeWorkbench w = Makers.row(101, CATALAN).get();
        int whole = w.quotientDifference(0, kind, j, k);
        checks.hold(where + " is defined", whole >= 0);
        w.set(0, last, (CATALAN[last] + 1) % 101);
        checks.hold(where + " needs c" + last, w.quotientDifference(0, kind, j, k) != whole);
        w.set(0, last, CATALAN[last]);
        for (int after = last + 1; after < 16; after++) {
            w.set(0, after, 0);
        }
        checks.due(where + " needs no more than c" + last, w.quotientDifference(0, kind, j, k), whole);
    }

    @Says(in = "QUOTIENT-DIFFERENCE SCHEME", clause = "A number is undefined if its formula divides by 0 or uses "
            + "an undefined number")
    void undefinedNumbers() {
        PadeWorkbench w = Makers.row(101, 1, 2, 6, 0, 24, 5).get();
        checks.due("q(1, 2) is 0 and defined", q(w, 1, 2), 0);
        checks.due("q(1, 3) divides by c3", q(w, 1, 3), NONE);
        checks.due("e(1, 2) uses q(1, 3)", e(w, 1, 2), NONE);
        checks.due("e(1, 3) uses q(1, 3)", e(w, 1, 3), NONE);
        checks.due("q(2, 1) uses e(1, 2) above", q(w, 2, 1), NONE);
        checks.due("q(2, 0) uses none of them", q(w, 2, 0), 92);
        checks.due("e(2, 0) uses q(2, 1)", e(w, 2, 0), NONE);
        // e(1, 0) is 0, and e(1, 1) is not.
        w = Makers.row(101, 1, 2, 4, 12, 60).get();
        checks.due("e(1, 0) is 0", e(w, 1, 0), 0);
        checks.due("q(2, 0) divides by e(1, 0)", q(w, 2, 0), NONE);
        checks.due("q(2, 1) is defined", q(w, 2, 1), 6);
        checks.due("e(2, 0) uses q(2, 0)", e(w, 2, 0), NONE);
        // A 0 above is no fault: q(1) is 1, 2, 2, and so e(1, 0) is 1 and e(1, 1) is 0.
        w = Makers.row(101, 1, 1, 2, 4).get();
        checks.due("e(1, 1) is 0", e(w, 1, 1), 0);
        checks.due("q(2, 0) is 0 and defined", q(w, 2, 0), 0);
        // q(1, 1) is 0, and so e(1, 0) is -3.
        w = Makers.row(101, 2, 6, 0, 5).get();
        checks.due("e(1, 0) uses a 0", e(w, 1, 0), 98);
        // 0 / 0, though a product with 0 stands above.
        w = Makers.series(101, "1/1-3x").get();
        checks.due("e(1, 0) of a geometric series", e(w, 1, 0), 0);
        checks.due("q(2, 0) of a geometric series", q(w, 2, 0), NONE);
        checks.due("q(8, 0) of a geometric series", q(w, 8, 0), NONE);
    }

    // ---- Promise 22

    @Says(in = "Promise 22", clause = "Returns a number of the quotient-difference scheme")
    void catalanScheme() {
        // The continued fraction of the Catalan numbers has ones alone.
        for (int j = 1; j <= 8; j++) {
            new Twins(checks, Makers.row(101, CATALAN)).ask(1, Call.QUOTIENT_DIFFERENCE, 0, 0, j, 0);
            if (j < 8) {
                new Twins(checks, Makers.row(101, CATALAN)).ask(1, Call.QUOTIENT_DIFFERENCE, 0, 1, j, 0);
            }
        }
    }

    @Says(in = "Promise 22", clause = "k + 2j - 1 at most 15 for q, k + 2j at most 15 for e")
    void ends() {
        PadeWorkbench w = Makers.row(101, CATALAN).get();
        for (int kind = 0; kind < 2; kind++) {
            for (int j = 1; j <= 8; j++) {
                int last = 16 - 2 * j - kind;
                if (last >= 0) {
                    checks.hold("the last k for " + j, w.quotientDifference(0, kind, j, last) >= 0);
                }
                new Twins(checks, Makers.row(101, CATALAN)).refuse(INVALID,
                        Call.QUOTIENT_DIFFERENCE, 0, kind, j, Math.max(last, -1) + 1);
            }
        }
    }

    /** 2j and k + 2j wrap around to small numbers, or would be small with a negative number. */
    @Says(in = "Promise 22", clause = "k + 2j - 1 at most 15 for q, k + 2j at most 15 for e")
    void sumsThatWrapAround() {
        int[][] pairs = {
            {1 << 30, 0}, {(1 << 30) + 1, 0}, {1 << 30, 5}, {MAX, 0}, {MAX, 2}, {MAX, 3}, {MIN, 0}, {MIN, 1},
            {MIN + 1, 0}, {1, MAX}, {1, MAX - 1}, {2, MAX}, {8, MAX}, {MAX, MAX}, {MIN, MIN}, {1, MIN},
            {9, -2}, {8, -1}, {-1, 0}, {-1, 5}, {0, 5}, {9, 0}, {1, 15}
        };
        for (int[] pair : pairs) {
            for (int kind = 0; kind < 2; kind++) {
                new Twins(checks, Makers::busy).refuse(INVALID, Call.QUOTIENT_DIFFERENCE, 0, kind, pair[0], pair[1]);
            }
        }
    }

    @Says(in = "Promise 22", clause = "Returns the number")
    void numbersOfTheScheme() {
        // 5 / 2 modulo 101, and 3 / 2 by 5 / 2 * 3 / 10 / (1 / 2)
        new Twins(checks, Makers.row(101, CATALAN)).ask(53, Call.QUOTIENT_DIFFERENCE, 0, 0, 1, 2);
        new Twins(checks, Makers.row(101, CATALAN)).ask(52, Call.QUOTIENT_DIFFERENCE, 0, 0, 2, 1);
        new Twins(checks, Makers.row(2, 1, 1, 1)).ask(1, Call.QUOTIENT_DIFFERENCE, 0, 0, 1, 1);
        new Twins(checks, Makers.row(2, 1, 1, 1)).ask(0, Call.QUOTIENT_DIFFERENCE, 0, 1, 1, 0);
    }

    @Says(in = "Promise 22", clause = "NONE if it is undefined")
    void undefinedIsNone() {
        new Twins(checks, Makers.fresh()).ask(NONE, Call.QUOTIENT_DIFFERENCE, 0, 0, 1, 0);
        new Twins(checks, Makers.fresh()).ask(NONE, Call.QUOTIENT_DIFFERENCE, 0, 1, 7, 1);
        new Twins(checks, Makers.series(101, "1/1-x")).ask(NONE, Call.QUOTIENT_DIFFERENCE, 0, 0, 2, 12);
    }

    // ---- EUCLIDEAN QUOTIENTS

    private static int[] quotient(Supplier<PadeWorkbench> maker, int s, int i) {
        PadeWorkbench w = maker.get();
        int[] row = new int[17];
        for (int index = 0; index <= 16; index++) {
            row[index] = w.quotient(0, s, i, index);
        }
        return row;
    }

    /** r0 = q0 r1 + r2, and so on, until r is 0; each r has a lower degree than the one before. */
    private void followEuclid(int p, int[] c, int s) {
        Supplier<PadeWorkbench> maker = Makers.row(p, c);
        int count = maker.get().quotientCount(0, s);
        int[] before = Poly.power(s + 1);
        int[] latest = Poly.trim(java.util.Arrays.copyOf(c, s + 1));
        for (int i = 0; i < count; i++) {
            checks.hold("r is not 0 yet", latest.length > 0);
            int[] next = Poly.minus(before, Poly.times(quotient(maker, s, i), latest, p), p);
            checks.hold("the remainder is small", next.length < latest.length);
            before = latest;
            latest = next;
        }
        checks.due("the last r", Poly.degree(latest), NONE);
        checks.due("no more quotients", maker.get().quotient(0, s, count, 0), NONE);
    }

    @Says(in = "EUCLIDEAN QUOTIENTS", clause = "For a series f and s from 0 to 15, let r0 be x^(s + 1), and let r1 be "
            + "the polynomial with the coefficients c0 to cs of f")
    void beginning() {
        Supplier<PadeWorkbench> maker = Makers.row(101, 2);
        for (int s = 0; s < 16; s++) {
            for (int index = 0; index <= 16; index++) {
                checks.due("x^(s + 1) / 2", maker.get().quotient(0, s, 0, index), index == s + 1 ? 51 : 0);
            }
            // cs itself belongs to r1, and c(s + 1) does not.
            int[] end = new int[16];
            end[s] = 2;
            checks.due("cs alone", Makers.row(101, end).get().quotientCount(0, s), 1);
            checks.due("x / 2", Makers.row(101, end).get().quotient(0, s, 0, 1), 51);
            if (s > 0) {
                checks.due("without cs", Makers.row(101, end).get().quotientCount(0, s - 1), 0);
            }
        }
    }

    @Says(in = "EUCLIDEAN QUOTIENTS", clause = "As long as the latest r is not 0, the polynomial before it is divided "
            + "by it with remainder")
    void divisions() {
        for (int s = 0; s < 16; s++) {
            followEuclid(101, mixed(101), s);
            followEuclid(101, CATALAN, s);
            followEuclid(2, mixed(2), s);
            followEuclid(251, new int[] {0, 1, 0, 0, 0, 250, 0, 0, 0, 0, 0, 0, 0, 0, 3}, s);
            followEuclid(3, new int[16], s);
        }
    }

    @Says(in = "EUCLIDEAN QUOTIENTS", clause = "the remainder is the next r")
    void remainders() {
        // x^10 = (x / 5) (x + 5 x^9) - x^2 / 5; then by -x^2 / 5 with -25 x^7, and x is left.
        Supplier<PadeWorkbench> maker = Makers.series(101, "x+5x^9");
        new Twins(checks, maker).ask(3, Call.QUOTIENT_COUNT, 0, 9);
        new Twins(checks, maker).ask(81, Call.QUOTIENT, 0, 9, 0, 1);
        new Twins(checks, maker).ask(76, Call.QUOTIENT, 0, 9, 1, 7);
        new Twins(checks, maker).ask(20, Call.QUOTIENT, 0, 9, 2, 1);
    }

    @Says(in = "EUCLIDEAN QUOTIENTS", clause = "The quotients are numbered from 0 in the order in which they are found")
    void numbersOfQuotients() {
        // x^2 by 1 + x: x - 1, and then 1 + x by 1.
        Supplier<PadeWorkbench> maker = Makers.series(101, "1+x");
        new Twins(checks, maker).refuse(INVALID, Call.QUOTIENT, 0, 1, -1, 0);
        new Twins(checks, maker).ask(100, Call.QUOTIENT, 0, 1, 0, 0);
        new Twins(checks, maker).ask(1, Call.QUOTIENT, 0, 1, 1, 0);
        new Twins(checks, maker).ask(NONE, Call.QUOTIENT, 0, 1, 2, 0);
    }

    // ---- Promises 23 and 24

    @Says(in = "Promise 23", clause = "Returns the number of Euclidean quotients")
    void quotientCounts() {
        new Twins(checks, Makers.series(101, "1/1-x")).ask(1, Call.QUOTIENT_COUNT, 0, 0);
        new Twins(checks, Makers.series(101, "1/1-x")).ask(2, Call.QUOTIENT_COUNT, 0, 1);
        new Twins(checks, Makers.series(101, "1/1-x")).ask(2, Call.QUOTIENT_COUNT, 0, 15);
        // All degrees from 15 to 0 are met: as many quotients as there can be.
        new Twins(checks, Makers.row(101, longest())).ask(16, Call.QUOTIENT_COUNT, 0, 15);
    }

    /** A series for which every quotient has the degree 1. */
    private static int[] longest() {
        int[] row = new int[16];
        row[0] = 1;
        for (int k = 1; k < 16; k++) {
            row[k] = row[k - 1] * Poly.inverse(k, 101) % 101;
        }
        return row;
    }

    @Says(in = "Promise 23", clause = "Returns the number of quotients, 0 if c0 to cs are all 0")
    void noQuotients() {
        for (int s = 0; s < 15; s++) {
            int[] row = new int[16];
            row[s + 1] = 1;
            new Twins(checks, Makers.row(101, row)).ask(0, Call.QUOTIENT_COUNT, 0, s);
            new Twins(checks, Makers.row(101, row)).ask(1, Call.QUOTIENT_COUNT, 0, s + 1);
        }
        new Twins(checks, Makers.fresh()).ask(0, Call.QUOTIENT_COUNT, 3, 15);
    }

    @Says(in = "Promise 24", clause = "Returns a coefficient of a Euclidean quotient")
    void quotientCoefficients() {
        Supplier<PadeWorkbench> maker = Makers.series(101, "1/1-x");
        for (int index = 0; index <= 16; index++) {
            new Twins(checks, maker).ask(index == 0 ? 100 : index == 1 ? 1 : 0, Call.QUOTIENT, 0, 5, 0, index);
            new Twins(checks, maker).ask(index <= 5 ? 1 : 0, Call.QUOTIENT, 0, 5, 1, index);
        }
    }

    @Says(in = "Promise 24", clause = "Returns the coefficient of x^index")
    void longestQuotient() {
        new Twins(checks, Makers.row(101, 2)).ask(51, Call.QUOTIENT, 0, 15, 0, 16);
        new Twins(checks, Makers.row(101, 2)).ask(0, Call.QUOTIENT, 0, 15, 0, 15);
        new Twins(checks, Makers.row(101, 2)).ask(51, Call.QUOTIENT, 0, 14, 0, 15);
        new Twins(checks, Makers.row(101, 2)).ask(0, Call.QUOTIENT, 0, 14, 0, 16);
    }

    @Says(in = "Promise 24", clause = "NONE if there is no quotient with this number")
    void noSuchQuotient() {
        Supplier<PadeWorkbench> maker = Makers.row(101, longest());
        PadeWorkbench w = maker.get();
        for (int i = 0; i < 16; i++) {
            checks.hold("quotient " + i, w.quotient(0, 15, i, 1) > 0);
        }
        for (int i : new int[] {16, 17, 18, 100, MAX - 1, MAX}) {
            new Twins(checks, maker).ask(NONE, Call.QUOTIENT, 0, 15, i, 0);
        }
        new Twins(checks, Makers.fresh()).ask(NONE, Call.QUOTIENT, 0, 0, 0, 0);
        new Twins(checks, Makers.fresh()).ask(NONE, Call.QUOTIENT, 0, 15, 0, 16);
    }

    // ---- LINEAR RECURRENCES

    /** The least d by trying all numbers, modulo 2: bit i - 1 of a choice is gi. */
    private static int leastOrder(int[] c, int length) {
        for (int d = 0; d < length; d++) {
            for (int choice = 0; choice < 1 << d; choice++) {
                if (holds(c, length, d, choice)) {
                    return d;
                }
            }
        }
        return length;
    }

    private static boolean holds(int[] c, int length, int d, int choice) {
        for (int k = d; k < length; k++) {
            int sum = 0;
            for (int i = 1; i <= d; i++) {
                sum += (choice >> i - 1 & 1) * c[k - i];
            }
            if (sum % 2 != c[k]) {
                return false;
            }
        }
        return true;
    }

    @Says(in = "LINEAR RECURRENCES", clause = "The linear complexity of the first L coefficients of a series "
            + "(L from 1 to 16) is the least d, 0 or more, such that there are numbers g1, ..., gd with "
            + "c(k) = g1 * c(k - 1) + g2 * c(k - 2) + ... + gd * c(k - d) for each k from d to L - 1")
    void leastOrders() {
        for (int bits = 0; bits < 512; bits++) {
            int[] c = new int[16];
            for (int k = 0; k < 9; k++) {
                c[k] = bits >> k & 1;
            }
            PadeWorkbench w = Makers.row(2, c).get();
            for (int length = 1; length <= 9; length++) {
                checks.due("complexity of " + bits + " to " + length, w.complexity(0, length), leastOrder(c, length));
            }
        }
        // With d = L no k is left to hold for.
        for (int length = 1; length <= 16; length++) {
            int[] c = new int[16];
            c[length - 1] = 5;
            new Twins(checks, Makers.row(101, c)).ask(length, Call.COMPLEXITY, 0, length);
        }
    }

    @Says(in = "LINEAR RECURRENCES", clause = "If 2d is at most L, the numbers g1 to gd are unique")
    void uniqueNumbers() {
        // 0, ..., 0, 1 has d = k + 1 from its end on, and 2d = L at twice that length.
        for (int d = 1; d <= 8; d++) {
            int[] c = new int[16];
            c[d - 1] = 1;
            for (int length = d; length <= 16; length++) {
                for (int i = 1; i <= d; i++) {
                    checks.due("g" + i + " of " + d + " with " + length,
                            Makers.row(101, c).get().recurrence(0, length, i), 2 * d <= length ? 0 : NONE);
                }
            }
        }
        new Twins(checks, Makers.series(101, "1/1-x-x^2")).ask(NONE, Call.RECURRENCE, 0, 3, 1);
        new Twins(checks, Makers.series(101, "1/1-x-x^2")).ask(1, Call.RECURRENCE, 0, 4, 1);
    }

    @Says(in = "LINEAR RECURRENCES", clause = "they are the recurrence of these coefficients")
    void recurrencesHold() {
        for (String text : new String[] {"4+x/1-3x+5x^4", "1/1-x", "7", "x^7", "x+x^2/1+100x^8", "1+2x+3x^2/1+x^2"}) {
            PadeWorkbench w = Makers.series(101, text).get();
            for (int length = 1; length <= 16; length++) {
                int d = w.complexity(0, length);
                for (int k = d; 2 * d <= length && k < length; k++) {
                    int sum = 0;
                    for (int i = 1; i <= d; i++) {
                        sum += w.recurrence(0, length, i) * w.coefficient(0, k - i);
                    }
                    checks.due("c" + k + " of " + text, sum % 101, w.coefficient(0, k));
                }
                w = Makers.series(101, text).get();
            }
        }
    }

    // ---- Promises 25 and 26

    @Says(in = "Promise 25", clause = "Returns the linear complexity of the first coefficients of a series")
    void complexities() {
        int[] want = {1, 1, 2, 2, 3, 3, 3, 3, 3, 3, 3, 3, 3, 3, 3, 3};
        for (int length = 1; length <= 16; length++) {
            new Twins(checks, Makers.series(7, "1+2x+3x^2/1+x^2")).ask(want[length - 1], Call.COMPLEXITY, 0, length);
        }
    }

    @Says(in = "Promise 25", clause = "Returns the linear complexity")
    void leastAndGreatestComplexity() {
        int[] last = new int[16];
        last[15] = 1;
        new Twins(checks, Makers.row(101, last)).ask(16, Call.COMPLEXITY, 0, 16);
        new Twins(checks, Makers.row(101, last)).ask(0, Call.COMPLEXITY, 0, 15);
        new Twins(checks, Makers.row(101, last)).ask(0, Call.COMPLEXITY, 0, 1);
        new Twins(checks, Makers.row(101, 1)).ask(1, Call.COMPLEXITY, 0, 1);
        new Twins(checks, Makers.fresh()).ask(0, Call.COMPLEXITY, 0, 16);
    }

    @Says(in = "Promise 26", clause = "Returns a number of the recurrence of the first coefficients of a series")
    void recurrences() {
        int[] want = {3, 0, 0, 96, NONE};
        for (int i = 1; i <= 5; i++) {
            new Twins(checks, Makers.series(101, "4+x/1-3x+5x^4")).ask(want[i - 1], Call.RECURRENCE, 0, 16, i);
            new Twins(checks, Makers.series(101, "4+x/1-3x+5x^4")).ask(want[i - 1], Call.RECURRENCE, 0, 8, i);
        }
    }

    @Says(in = "Promise 26", clause = "Returns the number gi")
    void lastNumber() {
        // 1 / (1 + x^8): g8 is -1 and the others are 0.
        for (int i = 1; i <= 8; i++) {
            new Twins(checks, Makers.series(101, "1/1+x^8")).ask(i == 8 ? 100 : 0, Call.RECURRENCE, 0, 16, i);
        }
    }

    @Says(in = "Promise 26", clause = "NONE if 2d is greater than L or i is greater than d")
    void noRecurrence() {
        Supplier<PadeWorkbench> maker = Makers.series(101, "1/1-2x+x^3");
        for (int length = 1; length <= 16; length++) {
            int d = maker.get().complexity(0, length);
            new Twins(checks, maker).ask(NONE, Call.RECURRENCE, 0, length, d + 1);
            new Twins(checks, maker).ask(NONE, Call.RECURRENCE, 0, length, MAX);
            if (2 * d > length) {
                new Twins(checks, maker).ask(NONE, Call.RECURRENCE, 0, length, 1);
                new Twins(checks, maker).ask(NONE, Call.RECURRENCE, 0, length, d);
            }
        }
        new Twins(checks, maker).ask(100, Call.RECURRENCE, 0, 6, 3);
        new Twins(checks, maker).ask(NONE, Call.RECURRENCE, 0, 5, 3);
        // d = 0 has an empty recurrence.
        new Twins(checks, Makers.fresh()).ask(NONE, Call.RECURRENCE, 0, 1, 1);
        new Twins(checks, Makers.fresh()).ask(NONE, Call.RECURRENCE, 0, 16, 1);
        new Twins(checks, Makers.row(101, 1)).ask(NONE, Call.RECURRENCE, 0, 1, 1);
        new Twins(checks, Makers.row(101, 1)).ask(0, Call.RECURRENCE, 0, 2, 1);
    }
}
