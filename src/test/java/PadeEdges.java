import java.util.Arrays;
import java.util.List;
import java.util.function.Supplier;

/** The clauses of PADE APPROXIMANTS, and of promises 13 to 20 but for their argument lines. */
final class PadeEdges {
    private static final int NONE = -1;
    private static final int INVALID = -2;
    private static final int MAX = Integer.MAX_VALUE;
    private static final int MIN = Integer.MIN_VALUE;
    private static final List<Call> THREE_ARGUMENTS = List.of(Call.NUMERATOR_DEGREE,
            Call.DENOMINATOR_DEGREE, Call.ORDER, Call.BLOCK_SIZE);
    private static final List<Call> FOUR_ARGUMENTS = List.of(Call.NUMERATOR, Call.DENOMINATOR, Call.EVALUATE);

    private final Checks checks;

    PadeEdges(Checks checks) {
        this.checks = checks;
    }

    /** A series with its prime, and with blocks of another form than the others have. */
    private record Sample(int p, String text) {
        Supplier<PadeWorkbench> maker() {
            return Makers.series(p, text);
        }

        int[] coefficients() {
            PadeWorkbench w = maker().get();
            int[] row = new int[16];
            for (int k = 0; k < 16; k++) {
                row[k] = w.coefficient(0, k);
            }
            return row;
        }

        Approximant at(int m, int n) {
            return new Approximant(this, m, n);
        }
    }

    private static final List<Sample> SAMPLES = List.of(
            new Sample(101, "0"), new Sample(101, "1"), new Sample(101, "x^15"), new Sample(101, "1+x^4"),
            new Sample(101, "1+x^15"), new Sample(2, "1+x/1+x+x^2"), new Sample(2, "x^3+x^4/1+x^5"),
            new Sample(3, "x^2+2x^7/1+x+x^6"), new Sample(7, "1+2x+3x^2/1+x^2"),
            new Sample(251, "250+7x+31x^2+9x^5+100x^9+77x^15/1+5x+250x^3+8x^7"));

    /** All that the workbench tells of [m/n]. */
    private static final class Approximant {
        final int[] top = new int[16];
        final int[] bottom = new int[16];
        final int d;
        final int e;
        final int order;
        final int block;

        Approximant(Sample sample, int m, int n) {
            PadeWorkbench w = sample.maker().get();
            for (int k = 0; k < 16; k++) {
                top[k] = w.numerator(0, m, n, k);
                bottom[k] = w.denominator(0, m, n, k);
            }
            d = w.numeratorDegree(0, m, n);
            e = w.denominatorDegree(0, m, n);
            order = w.order(0, m, n);
            block = w.blockSize(0, m, n);
        }

        boolean equal(Approximant other) {
            return Arrays.equals(top, other.top) && Arrays.equals(bottom, other.bottom);
        }
    }

    private interface EachApproximant {
        void look(Sample sample, int m, int n, Approximant found);
    }

    private static void each(EachApproximant looker) {
        for (Sample sample : SAMPLES) {
            for (int m = 0; m < 16; m++) {
                for (int n = 0; m + n < 16; n++) {
                    looker.look(sample, m, n, sample.at(m, n));
                }
            }
        }
    }

    private static String name(Sample sample, int m, int n) {
        return "[" + m + "/" + n + "] of " + sample;
    }

    // ---- PADE APPROXIMANTS

    private void refusePair(Supplier<PadeWorkbench> maker, int m, int n) {
        for (Call call : THREE_ARGUMENTS) {
            new Twins(checks, maker).refuse(INVALID, call, 0, m, n);
        }
        for (Call call : FOUR_ARGUMENTS) {
            new Twins(checks, maker).refuse(INVALID, call, 0, m, n, 0);
        }
    }

    @Says(in = "PADE APPROXIMANTS", clause = "Let f be a series, and let m and n be at least 0 with m + n at most 15")
    void sumOfDegrees() {
        // f is 1 / (1 - 2x): the order is 16 wherever n is at least 1.
        Supplier<PadeWorkbench> maker = Makers.series(101, "1/1-2x");
        for (int m = 0; m < 16; m++) {
            int n = 15 - m;
            new Twins(checks, maker).ask(n > 0 ? 0 : 15, Call.NUMERATOR_DEGREE, 0, m, n);
            new Twins(checks, maker).ask(n > 0 ? 1 : 0, Call.DENOMINATOR_DEGREE, 0, m, n);
            new Twins(checks, maker).ask(16, Call.ORDER, 0, m, n);
            new Twins(checks, maker).ask(n > 0 ? 14 : 0, Call.BLOCK_SIZE, 0, m, n);
            new Twins(checks, maker).ask(1, Call.NUMERATOR, 0, m, n, 0);
            new Twins(checks, maker).ask(n > 0 ? 99 : 0, Call.DENOMINATOR, 0, m, n, 1);
            new Twins(checks, maker).ask(1, Call.EVALUATE, 0, m, n, 0);
        }
        for (int m = 0; m <= 16; m++) {
            refusePair(maker, m, 16 - m);
        }
    }

    /** The sums wrap around to small numbers, or are small because one of the two is negative. */
    @Says(in = "PADE APPROXIMANTS", clause = "Let f be a series, and let m and n be at least 0 with m + n at most 15")
    void sumsThatWrapAround() {
        int[][] pairs = {
            {MAX, 1}, {1, MAX}, {MAX, MAX}, {MIN, MIN}, {MAX, MIN}, {MIN, MAX}, {MIN, 0}, {0, MIN},
            {1 << 30, 1 << 30}, {-1, 0}, {0, -1}, {-1, -1}, {-1, 16}, {16, -1}, {17, -2}, {-5, 15}
        };
        for (int[] pair : pairs) {
            refusePair(Makers::busy, pair[0], pair[1]);
        }
    }

    @Says(in = "PADE APPROXIMANTS", clause = "There are polynomials A and B with the following properties: "
            + "B is not 0, the degree of A is at most m, the degree of B is at most n, "
            + "and in B * f - A the coefficients of x^0 to x^(m + n) are 0")
    void properties() {
        each((sample, m, n, found) -> {
            // A and B are P and Q times a power of x, as high as the degrees let it be.
            int shift = found.d < 0 ? n : Math.min(m - found.d, n - found.e);
            checks.hold(name(sample, m, n) + " keeps to the degrees", shift >= 0);
            int[] a = Poly.times(found.top, Poly.power(Math.max(shift, 0)), sample.p());
            int[] b = Poly.times(found.bottom, Poly.power(Math.max(shift, 0)), sample.p());
            int[] gap = Poly.minus(Poly.times(b, sample.coefficients(), sample.p()), a, sample.p());
            for (int k = 0; k <= m + n && k < gap.length; k++) {
                checks.due(name(sample, m, n) + " and x^" + k, gap[k], 0);
            }
        });
    }

    /** Wherever P and Q times a power of x have the properties, P / Q is the approximant. */
    @Says(in = "PADE APPROXIMANTS", clause = "All pairs with these properties give the same fraction A / B")
    void oneFraction() {
        Sample sample = new Sample(101, "1+x^4");
        for (int m = 0; m < 16; m++) {
            for (int n = 0; m + n < 16; n++) {
                Approximant found = sample.at(m, n);
                for (int up = 0; up < 16; up++) {
                    for (int down = 0; up + down < 16; down++) {
                        int shift = Math.min(up - found.d, down - found.e);
                        if (shift >= 0 && found.order + shift > up + down) {
                            checks.hold(name(sample, up, down) + " is that of " + m + " and " + n,
                                    found.equal(sample.at(up, down)));
                        }
                    }
                }
            }
        }
    }

    @Says(in = "PADE APPROXIMANTS", clause = "In lowest terms, with the constant term 1 in the denominator "
            + "(which is always possible), this fraction P / Q is the Pade approximant [m/n] of f")
    void lowestTerms() {
        each((sample, m, n, found) -> {
            checks.due(name(sample, m, n) + " constant term", found.bottom[0], 1);
            int[] common = Poly.common(found.bottom, found.top, sample.p());
            checks.due(name(sample, m, n) + " common factor", Poly.degree(common), 0);
        });
    }

    @Says(in = "PADE APPROXIMANTS", clause = "If P is 0, Q is 1")
    void zeroOverOne() {
        for (int late = 1; late < 16; late++) {
            Sample sample = new Sample(7, "3x^" + late + "/1-x");
            for (int m = 0; m < late; m++) {
                for (int n : new int[] {0, 15 - m}) {
                    Approximant found = sample.at(m, n);
                    checks.due(name(sample, m, n) + " numeratorDegree", found.d, NONE);
                    checks.due(name(sample, m, n) + " denominatorDegree", found.e, 0);
                    checks.hold(name(sample, m, n) + " P", Arrays.equals(found.top, new int[16]));
                    checks.hold(name(sample, m, n) + " Q",
                            Arrays.equals(found.bottom, Arrays.copyOf(new int[] {1}, 16)));
                }
            }
            checks.due("P is not 0 from [" + late + "/0] on", sample.at(late, 0).d, late);
        }
    }

    @Says(in = "PADE APPROXIMANTS", clause = "The order of the approximant is the number of coefficients of f, "
            + "counted from c0 on without gaps, that agree with the power series of P / Q")
    void orderWithoutGaps() {
        int[] row = new int[16];
        Arrays.fill(row, 1);
        for (int gap = 2; gap < 16; gap++) {
            int[] broken = row.clone();
            broken[gap] = 5;
            new Twins(checks, Makers.row(101, broken)).ask(gap, Call.ORDER, 0, 0, 1);
        }
        each((sample, m, n, found) -> {
            int agreed = Arrays.mismatch(Poly.series(found.top, found.bottom, sample.p()), sample.coefficients());
            checks.due(name(sample, m, n) + " order", found.order, agreed < 0 ? 16 : agreed);
        });
    }

    @Says(in = "PADE APPROXIMANTS", clause = "It is 16 if all of them agree")
    void orderOfAll() {
        int[] row = new int[16];
        Arrays.fill(row, 1);
        new Twins(checks, Makers.row(101, row)).ask(16, Call.ORDER, 0, 0, 1);
        row[15] = 2;
        new Twins(checks, Makers.row(101, row)).ask(15, Call.ORDER, 0, 0, 1);
        new Twins(checks, Makers.row(101, row)).ask(16, Call.ORDER, 0, 15, 0);
        new Twins(checks, Makers.fresh()).ask(16, Call.ORDER, 0, 0, 0);
        new Twins(checks, Makers.fresh()).ask(16, Call.ORDER, 0, 7, 8);
    }

    @Says(in = "PADE APPROXIMANTS", clause = "If P is not 0, let d be the degree of P, e the degree of Q, "
            + "and r = order - d - e - 1")
    void blockByDegrees() {
        each((sample, m, n, found) -> {
            checks.due(name(sample, m, n) + " d", found.d, Poly.degree(found.top));
            checks.due(name(sample, m, n) + " e", found.e, Poly.degree(found.bottom));
            int r = found.d < 0 ? NONE : found.order - found.d - found.e - 1;
            checks.due(name(sample, m, n) + " r", found.block, r);
            checks.hold(name(sample, m, n) + " r is not negative", found.d < 0 || found.block >= 0);
        });
    }

    @Says(in = "PADE APPROXIMANTS", clause = "The block of the approximant has the corner (d, e) and the size r")
    void corners() {
        each((sample, m, n, found) -> {
            if (found.d >= 0) {
                checks.hold(name(sample, m, n) + " is that of its corner",
                        found.equal(sample.at(found.d, found.e)));
                checks.hold(name(sample, m, n) + " lies in its block", m >= found.d && n >= found.e
                        && m <= found.d + found.block && n <= found.e + found.block);
            }
        });
    }

    @Says(in = "PADE APPROXIMANTS", clause = "(The approximants [d + i / e + j] with i and j from 0 to r are equal, "
            + "as far as they exist.)")
    void wholeBlocks() {
        for (Sample sample : SAMPLES) {
            for (int d = 0; d < 16; d++) {
                for (int e = 0; d + e < 16; e++) {
                    Approximant found = sample.at(d, e);
                    if (found.d == d && found.e == e) {
                        wholeBlock(sample, found);
                    }
                }
            }
        }
    }

    /** The rows and columns next to the block belong to it no more. */
    private void wholeBlock(Sample sample, Approximant corner) {
        int r = corner.block;
        for (int i = 0; i <= r + 1; i++) {
            for (int j = 0; j <= r + 1; j++) {
                int m = corner.d + i;
                int n = corner.e + j;
                if (m + n < 16) {
                    boolean inside = i <= r && j <= r;
                    checks.hold(name(sample, m, n) + " is inside: " + inside,
                            corner.equal(sample.at(m, n)) == inside);
                }
            }
        }
    }

    @Says(in = "PADE APPROXIMANTS", clause = "The approximant is normal if r is 0")
    void normalApproximants() {
        for (Sample sample : SAMPLES) {
            for (int s = 0; s < 16; s++) {
                int count = 0;
                for (int m = 0; m <= s; m++) {
                    count += sample.at(m, s - m).block == 0 ? 1 : 0;
                }
                checks.due("normalCount " + s + " of " + sample, sample.maker().get().normalCount(0, s), count);
            }
        }
    }

    // ---- Promises 13 to 19

    @Says(in = "Promise 13", clause = "Returns the degree of the numerator P of a Pade approximant")
    void numeratorDegrees() {
        Twins twins = new Twins(checks, Makers.series(101, "1+x^4"));
        twins.ask(0, Call.NUMERATOR_DEGREE, 0, 0, 0);
        twins.ask(0, Call.NUMERATOR_DEGREE, 0, 3, 3);
        twins.ask(4, Call.NUMERATOR_DEGREE, 0, 4, 0);
        twins.ask(4, Call.NUMERATOR_DEGREE, 0, 15, 0);
        twins.ask(4, Call.NUMERATOR_DEGREE, 0, 4, 11);
        twins.ask(0, Call.NUMERATOR_DEGREE, 0, 3, 12);
    }

    @Says(in = "Promise 13", clause = "Returns the degree")
    void numeratorDegreeOfEach() {
        each((sample, m, n, found) ->
                checks.due(name(sample, m, n) + " numeratorDegree", found.d, Poly.degree(found.top)));
    }

    @Says(in = "Promise 13", clause = "NONE if P is 0")
    void numeratorDegreeOfZero() {
        Twins twins = new Twins(checks, Makers.series(101, "x^5", "0"));
        twins.ask(NONE, Call.NUMERATOR_DEGREE, 0, 4, 0);
        twins.ask(NONE, Call.NUMERATOR_DEGREE, 0, 4, 11);
        twins.ask(5, Call.NUMERATOR_DEGREE, 0, 5, 0);
        twins.ask(NONE, Call.NUMERATOR_DEGREE, 1, 0, 0);
        twins.ask(NONE, Call.NUMERATOR_DEGREE, 1, 15, 0);
        twins.ask(NONE, Call.NUMERATOR_DEGREE, 1, 0, 15);
    }

    @Says(in = "Promise 14", clause = "Returns the degree of the denominator Q of a Pade approximant")
    void denominatorDegrees() {
        Twins twins = new Twins(checks, Makers.series(101, "1/1+x^4"));
        twins.ask(0, Call.DENOMINATOR_DEGREE, 0, 0, 0);
        twins.ask(0, Call.DENOMINATOR_DEGREE, 0, 3, 3);
        twins.ask(4, Call.DENOMINATOR_DEGREE, 0, 0, 4);
        twins.ask(4, Call.DENOMINATOR_DEGREE, 0, 0, 15);
        twins.ask(0, Call.DENOMINATOR_DEGREE, 0, 15, 0);
    }

    @Says(in = "Promise 14", clause = "Returns the degree")
    void denominatorDegreeOfZero() {
        // Q is 1 where P is 0, so that its degree is never NONE.
        Twins twins = new Twins(checks, Makers.series(101, "x^5"));
        twins.ask(0, Call.DENOMINATOR_DEGREE, 0, 4, 11);
        twins.ask(0, Call.DENOMINATOR_DEGREE, 3, 0, 15);
        twins.ask(0, Call.DENOMINATOR_DEGREE, 3, 0, 0);
    }

    @Says(in = "Promise 15", clause = "Returns a coefficient of the numerator P of a Pade approximant")
    void numerators() {
        Twins twins = new Twins(checks, Makers.series(101, "2+x^2/1+3x+x^3"));
        int[] want = {2, 0, 1};
        for (int index = 0; index < 16; index++) {
            twins.ask(index < 3 ? want[index] : 0, Call.NUMERATOR, 0, 2, 3, index);
            twins.ask(index < 3 ? want[index] : 0, Call.NUMERATOR, 0, 8, 7, index);
        }
    }

    @Says(in = "Promise 15", clause = "Returns the coefficient of x^index")
    void numeratorAtBothEnds() {
        Twins twins = new Twins(checks, Makers.series(101, "7+9x^15"));
        twins.ask(7, Call.NUMERATOR, 0, 15, 0, 0);
        twins.ask(0, Call.NUMERATOR, 0, 15, 0, 1);
        twins.ask(0, Call.NUMERATOR, 0, 15, 0, 14);
        twins.ask(9, Call.NUMERATOR, 0, 15, 0, 15);
        twins.ask(0, Call.NUMERATOR, 0, 14, 0, 15);
        twins.ask(0, Call.NUMERATOR, 3, 0, 15, 0);
    }

    @Says(in = "Promise 16", clause = "Returns a coefficient of the denominator Q of a Pade approximant")
    void denominators() {
        Twins twins = new Twins(checks, Makers.series(101, "2+x^2/1+3x+x^3"));
        int[] want = {1, 3, 0, 1};
        for (int index = 0; index < 16; index++) {
            twins.ask(index < 4 ? want[index] : 0, Call.DENOMINATOR, 0, 2, 3, index);
            twins.ask(index < 4 ? want[index] : 0, Call.DENOMINATOR, 0, 8, 7, index);
        }
    }

    @Says(in = "Promise 16", clause = "Returns the coefficient of x^index")
    void denominatorAtBothEnds() {
        Twins twins = new Twins(checks, Makers.series(101, "1/1+9x^15"));
        twins.ask(1, Call.DENOMINATOR, 0, 0, 15, 0);
        twins.ask(0, Call.DENOMINATOR, 0, 0, 15, 1);
        twins.ask(0, Call.DENOMINATOR, 0, 0, 15, 14);
        twins.ask(9, Call.DENOMINATOR, 0, 0, 15, 15);
        twins.ask(0, Call.DENOMINATOR, 0, 0, 14, 15);
        twins.ask(1, Call.DENOMINATOR, 3, 0, 15, 0);
        twins.ask(0, Call.DENOMINATOR, 3, 0, 15, 15);
    }

    @Says(in = "Promise 17", clause = "Returns the order of a Pade approximant")
    void orders() {
        Twins twins = new Twins(checks, Makers.series(101, "1+x^4"));
        twins.ask(4, Call.ORDER, 0, 0, 0);
        twins.ask(4, Call.ORDER, 0, 3, 3);
        twins.ask(16, Call.ORDER, 0, 4, 0);
        twins.ask(8, Call.ORDER, 0, 0, 4);
        twins.ask(12, Call.ORDER, 0, 3, 8);
        twins.ask(16, Call.ORDER, 0, 0, 15);
    }

    @Says(in = "Promise 17", clause = "Returns 0 to 16")
    void orderRange() {
        // As c0 always agrees, 0 is never the answer.
        each((sample, m, n, found) -> checks.hold(name(sample, m, n) + " order " + found.order,
                found.order >= 1 && found.order <= 16));
        new Twins(checks, Makers.series(101, "1+x")).ask(1, Call.ORDER, 0, 0, 0);
        new Twins(checks, Makers.series(101, "x")).ask(1, Call.ORDER, 0, 0, 15);
        new Twins(checks, Makers.series(101, "1")).ask(16, Call.ORDER, 0, 0, 0);
    }

    @Says(in = "Promise 18", clause = "Returns the size of the block of a Pade approximant")
    void blocks() {
        Twins twins = new Twins(checks, Makers.series(101, "1+x^4"));
        twins.ask(3, Call.BLOCK_SIZE, 0, 0, 0);
        twins.ask(3, Call.BLOCK_SIZE, 0, 3, 3);
        twins.ask(11, Call.BLOCK_SIZE, 0, 4, 0);
        twins.ask(11, Call.BLOCK_SIZE, 0, 4, 11);
        twins.ask(3, Call.BLOCK_SIZE, 0, 0, 4);
        twins.ask(3, Call.BLOCK_SIZE, 0, 0, 15);
    }

    @Says(in = "Promise 18", clause = "Returns the size r")
    void leastAndGreatestBlock() {
        new Twins(checks, Makers.series(101, "5")).ask(15, Call.BLOCK_SIZE, 0, 0, 0);
        new Twins(checks, Makers.series(101, "5")).ask(15, Call.BLOCK_SIZE, 0, 7, 8);
        new Twins(checks, Makers.series(101, "5+x")).ask(0, Call.BLOCK_SIZE, 0, 0, 0);
        new Twins(checks, Makers.series(101, "5+x^15")).ask(14, Call.BLOCK_SIZE, 0, 0, 0);
        new Twins(checks, Makers.series(101, "5+x^15")).ask(0, Call.BLOCK_SIZE, 0, 15, 0);
    }

    @Says(in = "Promise 18", clause = "NONE if P is 0")
    void blockOfZero() {
        Twins twins = new Twins(checks, Makers.series(101, "x^5", "0"));
        twins.ask(NONE, Call.BLOCK_SIZE, 0, 4, 0);
        twins.ask(NONE, Call.BLOCK_SIZE, 0, 0, 15);
        twins.ask(10, Call.BLOCK_SIZE, 0, 5, 0);
        twins.ask(NONE, Call.BLOCK_SIZE, 1, 0, 0);
        twins.ask(NONE, Call.BLOCK_SIZE, 1, 15, 0);
    }

    @Says(in = "Promise 19", clause = "Evaluates a Pade approximant")
    void values() {
        Sample sample = new Sample(7, "1+2x+3x^2/1+x^2");
        for (int m = 0; m < 4; m++) {
            for (int n = 0; n < 4; n++) {
                Approximant found = sample.at(m, n);
                for (int x = 0; x < 7; x++) {
                    int below = Poly.value(found.bottom, x, 7);
                    int above = Poly.value(found.top, x, 7);
                    int want = below == 0 ? NONE : above * Poly.inverse(below, 7) % 7;
                    checks.due(name(sample, m, n) + " at " + x, sample.maker().get().evaluate(0, m, n, x), want);
                }
            }
        }
    }

    @Says(in = "Promise 19", clause = "Returns P(x) / Q(x)")
    void valuesOfEach() {
        Twins twins = new Twins(checks, Makers.series(101, "1+x/1-x"));
        twins.ask(1, Call.EVALUATE, 0, 1, 1, 0);
        // 3 / -1, and 0 / 2
        twins.ask(98, Call.EVALUATE, 0, 1, 1, 2);
        twins.ask(0, Call.EVALUATE, 0, 1, 1, 100);
        twins.ask(0, Call.EVALUATE, 3, 1, 1, 100);
        new Twins(checks, Makers.series(251, "250x^15")).ask(1, Call.EVALUATE, 0, 15, 0, 250);
    }

    @Says(in = "Promise 19", clause = "NONE if Q(x) is 0")
    void poles() {
        new Twins(checks, Makers.series(101, "1+x/1-x")).ask(NONE, Call.EVALUATE, 0, 1, 1, 1);
        new Twins(checks, Makers.series(101, "1/1+x")).ask(NONE, Call.EVALUATE, 0, 0, 1, 100);
        new Twins(checks, Makers.series(2, "1/1+x")).ask(NONE, Call.EVALUATE, 0, 0, 1, 1);
        new Twins(checks, Makers.series(2, "1/1+x")).ask(1, Call.EVALUATE, 0, 0, 1, 0);
        // A common factor of numerator and denominator leaves no pole.
        new Twins(checks, Makers.series(101, "1-x^2/1-x")).ask(2, Call.EVALUATE, 0, 3, 3, 1);
    }

    // ---- Promise 20

    @Says(in = "Promise 20", clause = "Counts the normal approximants [m/n] of a series with m + n equal to s")
    void normalCounts() {
        new Twins(checks, Makers.series(7, "1+2x+3x^2/1+x^2")).ask(3, Call.NORMAL_COUNT, 0, 4);
        new Twins(checks, Makers.series(101, "1+x^4")).ask(0, Call.NORMAL_COUNT, 0, 6);
        // exp(x): every approximant is normal.
        int[] row = new int[16];
        row[0] = 1;
        for (int k = 1; k < 16; k++) {
            row[k] = row[k - 1] * Poly.inverse(k, 101) % 101;
        }
        for (int s = 0; s < 16; s++) {
            new Twins(checks, Makers.row(101, row)).ask(s + 1, Call.NORMAL_COUNT, 0, s);
        }
    }

    @Says(in = "Promise 20", clause = "Returns the number")
    void normalCountOfZero() {
        // Where P is 0 there is no r, and so the approximant is not normal.
        for (int s = 0; s < 16; s++) {
            new Twins(checks, Makers.fresh()).ask(0, Call.NORMAL_COUNT, 0, s);
            new Twins(checks, Makers.series(101, "x^15")).ask(s == 15 ? 1 : 0, Call.NORMAL_COUNT, 0, s);
            new Twins(checks, Makers.series(101, "1")).ask(0, Call.NORMAL_COUNT, 0, s);
        }
    }
}
