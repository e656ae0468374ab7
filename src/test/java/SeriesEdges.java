import java.util.Set;

/** The clauses of FIELD and SERIES, and of promises 1 to 9 but for their argument lines. */
final class SeriesEdges {
    private static final int NONE = -1;
    private static final int INVALID = -2;
    private static final int REJECTED = -3;
    private static final int FULL = -4;
    private static final Set<Integer> PRIMES = Set.of(
        2, 3, 5, 7, 11, 13, 17, 19, 23, 29, 31, 37, 41, 43, 47, 53, 59, 61, 67, 71, 73, 79, 83, 89,
        97, 101, 103, 107, 109, 113, 127, 131, 137, 139, 149, 151, 157, 163, 167, 173, 179, 181,
        191, 193, 197, 199, 211, 223, 227, 229, 233, 239, 241, 251);

    private final Checks checks;

    SeriesEdges(Checks checks) {
        this.checks = checks;
    }

    /** A series with this number at all sixteen places. */
    private static int[] flat(int number) {
        int[] row = new int[16];
        java.util.Arrays.fill(row, number);
        return row;
    }

    /** A series that is 0 but for this place. */
    private static int[] single(int place, int number) {
        int[] row = new int[16];
        row[place] = number;
        return row;
    }

    // ---- What it is

    @Says(in = "What it is", clause = "An object is used for at most 512 calls after it has been made")
    void call512() {
        PadeWorkbench w = new PadeWorkbench();
        for (int i = 0; i < 511; i++) {
            w.set(i % 4, i % 16, i % 101);
        }
        checks.due("coefficient as call 512", w.coefficient(2, 14), 510 % 101);
        w = new PadeWorkbench();
        for (int i = 0; i < 511; i++) {
            w.undo();
        }
        checks.due("errorCount as call 512", w.errorCount(1), 511);
        w = new PadeWorkbench();
        for (int i = 0; i < 511; i++) {
            checks.due("append as call " + (i + 1), w.append(32), i < 80 ? i + 1 : FULL);
        }
        checks.due("clearText as call 512", w.clearText(), 80);
        w = new PadeWorkbench();
        for (int i = 0; i < 511; i++) {
            w.addPoint(i % 101, i % 2);
        }
        checks.due("clearPoints as call 512", w.clearPoints(), 10);
        w = new PadeWorkbench();
        long first = w.digest();
        for (int i = 1; i < 511; i++) {
            w.digest();
        }
        checks.due("digest as call 512", w.digest(), first);
    }

    // ---- FIELD

    @Says(in = "FIELD", clause = "All numbers are elements of the field of the integers modulo a prime p, "
            + "written as 0 to p - 1")
    void numbersAreReduced() {
        for (int p : new int[] {2, 3, 101, 251}) {
            int top = p - 1;
            PadeWorkbench w = Makers.row(p, flat(top)).get();
            w.add(0, 0, 1);
            checks.due("p - 1 twice", w.coefficient(1, 15), p - 2);
            w.multiply(0, 0, 1);
            checks.due("sixteen products", w.coefficient(1, 15), 16 % p);
            w.invert(0, 1);
            checks.series("-1 + x", w, 1, top, 1);
            w.derivative(0, 1);
            checks.due("-15", w.coefficient(1, 14), (15 * top) % p);
            Checks.parse(w, 1, "-1-x");
            checks.series("negative numbers", w, 1, top, top);
            checks.due("a value", w.evaluate(0, 15, 0, 1), (16 * top) % p);
            checks.due("a determinant of odd size", w.determinant(0, 0, 15), top);
            checks.due("a determinant of even size", w.determinant(0, 0, 16), 1);
            checks.due("a coefficient below", w.denominator(0, 0, 1, 1), top);
            checks.due("a coefficient above", w.numerator(0, 0, 1, 0), top);
            checks.due("a quotient", w.quotient(0, 15, 0, 0), 1);
            checks.due("a number of the recurrence", w.recurrence(0, 16, 1), 1);
            w.addPoint(top, top);
            checks.due("an interpolant", w.interpolant(0, 0, 0), top);
        }
    }

    @Says(in = "FIELD", clause = "The prime is one of the primes from 2 to 251")
    void allPrimes() {
        PadeWorkbench w = new PadeWorkbench();
        int now = 101;
        for (int p = -100; p <= 400; p++) {
            boolean prime = PRIMES.contains(p);
            checks.due("setPrime(" + p + ")", w.setPrime(p), prime ? now : INVALID);
            now = prime ? p : now;
        }
    }

    @Says(in = "FIELD", clause = "it is 101 at first")
    void firstPrime() {
        new Twins(checks, Makers.fresh()).refuse(INVALID, Call.SET, 0, 0, 101);
        new Twins(checks, Makers.fresh()).allow(0, Call.SET, 0, 0, 100);
        new Twins(checks, Makers.fresh()).allow(101, Call.SET_PRIME, 101);
    }

    @Says(in = "FIELD", clause = "Quotients a / b are a times the inverse of b modulo p")
    void everyQuotient() {
        for (int p : new int[] {2, 3, 5, 101, 251}) {
            PadeWorkbench w = new PadeWorkbench();
            w.setPrime(p);
            w.set(0, 1, p - 1);
            for (int b = 1; b < p; b++) {
                w.set(0, 0, b);
                int quotient = w.quotientDifference(0, 0, 1, 0);
                checks.hold("-1 / " + b + " is an element", quotient >= 0 && quotient < p);
                checks.due("-1 / " + b + " times " + b, quotient * b % p, p - 1);
            }
        }
    }

    @Says(in = "FIELD", clause = "A polynomial has the degree NONE if it is 0")
    void degreeOfZero() {
        new Twins(checks, Makers.fresh()).ask(NONE, Call.NUMERATOR_DEGREE, 0, 0, 0);
        new Twins(checks, Makers.row(101, 7)).ask(0, Call.NUMERATOR_DEGREE, 0, 0, 0);
    }

    // ---- SERIES

    @Says(in = "SERIES", clause = "There are 4 series, numbered 0 to 3")
    void fourSeries() {
        PadeWorkbench w = new PadeWorkbench();
        for (int slot = 0; slot < 4; slot++) {
            for (int k = 0; k < 16; k++) {
                w.set(slot, k, 16 * slot + k + 1);
            }
        }
        for (int slot = 0; slot < 4; slot++) {
            for (int k = 0; k < 16; k++) {
                checks.due("c" + k + " of " + slot, w.coefficient(slot, k), 16 * slot + k + 1);
            }
        }
        checks.due("series -1", w.coefficient(-1, 0), INVALID);
        checks.due("series 4", w.coefficient(4, 0), INVALID);
    }

    @Says(in = "SERIES", clause = "A series consists of the coefficients c0, c1, ..., c15 (of x^0 to x^15), "
            + "which are all 0 at first")
    void sixteenZeros() {
        PadeWorkbench w = new PadeWorkbench();
        for (int slot = 0; slot < 4; slot++) {
            checks.series("a new series", w, slot);
        }
        checks.due("c-1", w.coefficient(0, -1), INVALID);
        checks.due("c16", w.coefficient(0, 16), INVALID);
    }

    @Says(in = "SERIES", clause = "In every operation on series only these 16 coefficients are computed")
    void sixteenResults() {
        PadeWorkbench w = Makers.row(101, flat(1)).get();
        checks.due("add", w.add(0, 0, 1), 16);
        checks.due("multiply", w.multiply(0, 0, 1), 16);
        checks.due("the last coefficient of the product", w.coefficient(1, 15), 16);
        checks.due("invert 1 - x", w.invert(0, 2) + w.invert(2, 3), 2 + 16);
        w.set(2, 0, 0);
        w.set(2, 1, 1);
        checks.due("substitute x", w.substitute(0, 2, 3), 16);
        checks.due("parse", Checks.parse(w, 3, "1/1-x"), 16);
    }

    @Says(in = "SERIES", clause = "everything that belongs to higher powers is dropped")
    void higherPowers() {
        PadeWorkbench w = Makers.series(101, "x^8", "x^7", "x^2", "x^15").get();
        checks.due("x^8 x^8", w.multiply(0, 0, 0), 0);
        w = Makers.series(101, "x^8", "x^7", "x^2", "x^15").get();
        checks.due("x^8 x^7", w.multiply(0, 1, 0), 1);
        checks.due("x^15 is kept", w.coefficient(0, 15), 1);
        checks.due("x^15 x^15", w.multiply(3, 3, 0), 0);
        checks.due("(x^2)^7", w.substitute(1, 2, 0), 1);
        checks.due("x^14", w.coefficient(0, 14), 1);
        checks.due("(x^15)^2", w.substitute(2, 3, 0), 0);
        Checks.parse(w, 0, "x^8");
        checks.due("(x^2)^8", w.substitute(0, 2, 0), 0);
        checks.due("x^15 / (1 - x)", Checks.parse(w, 0, "x^15/1-x"), 1);
        checks.due("its c15", w.coefficient(0, 15), 1);
        checks.due("1 / (1 + x^15)", Checks.parse(w, 0, "1/1+x^15"), 2);
        checks.due("inverted", w.invert(0, 0), 2);
    }

    // ---- Promise 1

    @Says(in = "Promise 1", clause = "Creates a workbench with the prime 101, series that are 0, no points, "
            + "an empty text and an empty undo stack")
    void newObject() {
        checks.due("the text", new PadeWorkbench().clearText(), 0);
        checks.due("parse of the text", new PadeWorkbench().parse(0), -10);
        checks.due("the prime", new PadeWorkbench().setPrime(3), 101);
        checks.due("the points", new PadeWorkbench().clearPoints(), 0);
        checks.due("the first point", new PadeWorkbench().addPoint(0, 0), 1);
        checks.due("the undo stack", new PadeWorkbench().undo(), REJECTED);
        for (int kind = 0; kind < 3; kind++) {
            checks.due("errorCount " + kind, new PadeWorkbench().errorCount(kind), 0);
        }
        for (int slot = 0; slot < 4; slot++) {
            checks.series("series " + slot, new PadeWorkbench(), slot);
        }
    }

    // ---- Promise 2

    @Says(in = "Promise 2", clause = "Sets the prime")
    void setPrimeSets() {
        for (int p : PRIMES) {
            PadeWorkbench w = new PadeWorkbench();
            w.setPrime(p);
            checks.due("p - 1", w.set(0, 0, p - 1), 0);
            checks.due("p", w.set(0, 0, p), INVALID);
            checks.due("-1 and 1 are 0", w.set(1, 0, 1) + w.add(0, 1, 2), 0);
        }
    }

    @Says(in = "Promise 2", clause = "All series become 0, and all points are removed")
    void setPrimeEmpties() {
        for (int p : new int[] {2, 13, 101, 251}) {
            PadeWorkbench w = Makers.busy();
            checks.due("setPrime", w.setPrime(p), 13);
            for (int slot = 0; slot < 4; slot++) {
                checks.series("after setPrime", w, slot);
            }
            checks.due("an interpolant after setPrime", w.unattainable(0), INVALID);
            checks.due("the points after setPrime", w.clearPoints(), 0);
        }
        PadeWorkbench w = Makers.full();
        w.setPrime(11);
        checks.due("the first of new points", w.addPoint(10, 10), 1);
        checks.due("the text is kept", w.clearText(), 80);
    }

    @Says(in = "Promise 2", clause = "Returns the previous prime")
    void previousPrime() {
        PadeWorkbench w = new PadeWorkbench();
        checks.due("from the first one", w.setPrime(2), 101);
        checks.due("from the least", w.setPrime(251), 2);
        checks.due("after a refused one", w.setPrime(253), INVALID);
        checks.due("from the greatest", w.setPrime(251), 251);
        w.setPrime(7);
        w.undo();
        checks.due("after undo", w.setPrime(5), 251);
    }

    @Says(in = "Promise 2", clause = "INVALID if p is out of range or not a prime")
    void notPrimes() {
        for (int p : new int[] {0, 1, 4, 9, 25, 49, 121, 169, 221, 247, 249, 250, 253, 257, -2, -3, -251}) {
            new Twins(checks, Makers::busy).refuse(INVALID, Call.SET_PRIME, p);
        }
        // What these give modulo 2^8, or 2^31, is a prime.
        for (int p : new int[] {256 + 7, 65536 + 2, Integer.MIN_VALUE + 2, Integer.MAX_VALUE}) {
            new Twins(checks, Makers::full).refuse(INVALID, Call.SET_PRIME, p);
        }
    }

    // ---- Promises 3 and 4

    @Says(in = "Promise 3", clause = "Sets a coefficient of a series")
    void setSets() {
        for (int slot = 0; slot < 4; slot++) {
            for (int index : new int[] {0, 15}) {
                PadeWorkbench w = new PadeWorkbench();
                w.set(slot, index, 100);
                for (int other = 0; other < 4; other++) {
                    checks.series("set " + slot + " " + index, w, other,
                            other == slot ? single(index, 100) : new int[0]);
                }
            }
        }
    }

    @Says(in = "Promise 3", clause = "Returns the previous coefficient")
    void setTellsThePrevious() {
        PadeWorkbench w = new PadeWorkbench();
        checks.due("the first", w.set(3, 15, 100), 0);
        checks.due("a refused one", w.set(3, 15, 101), INVALID);
        checks.due("the second", w.set(3, 15, 0), 100);
        checks.due("the third", w.set(3, 15, 5), 0);
        w.undo();
        checks.due("after undo", w.set(3, 15, 6), 0);
    }

    @Says(in = "Promise 4", clause = "Returns a coefficient of a series")
    void coefficientTells() {
        PadeWorkbench w = Makers.series(101, "1+2x+3x^15", "4", "5x^15", "6+7x^15").get();
        checks.due("c0 of 0", w.coefficient(0, 0), 1);
        checks.due("c1 of 0", w.coefficient(0, 1), 2);
        checks.due("c15 of 0", w.coefficient(0, 15), 3);
        checks.due("c0 of 3", w.coefficient(3, 0), 6);
        checks.due("c15 of 3", w.coefficient(3, 15), 7);
    }

    @Says(in = "Promise 4", clause = "Returns the coefficient")
    void coefficientChangesNothing() {
        new Twins(checks, Makers::busy).ask(3, Call.COEFFICIENT, 0, 0);
        new Twins(checks, Makers::busy).ask(5, Call.COEFFICIENT, 1, 15);
        new Twins(checks, Makers::full).ask(0, Call.COEFFICIENT, 3, 15);
    }

    // ---- Promise 5

    @Says(in = "Promise 5", clause = "Stores the sum of two series")
    void addStores() {
        PadeWorkbench w = Makers.series(7, "6+6x+3x^15", "6+x+4x^14").get();
        w.add(0, 1, 2);
        checks.series("sum", w, 2, 5, 0, 0, 0, 0, 0, 0, 0, 0, 0, 0, 0, 0, 0, 4, 3);
        w.add(0, 0, 0);
        checks.series("a series to itself", w, 0, 5, 5, 0, 0, 0, 0, 0, 0, 0, 0, 0, 0, 0, 0, 0, 6);
        w.add(0, 1, 1);
        checks.series("in the place of b", w, 1, 4, 6, 0, 0, 0, 0, 0, 0, 0, 0, 0, 0, 0, 0, 4, 6);
        w.add(1, 3, 1);
        checks.due("and 0", w.coefficient(1, 15), 6);
    }

    @Says(in = "Promise 5", clause = "Returns the number of coefficients of the result that are not 0")
    void addCounts() {
        PadeWorkbench w = Makers.row(2, flat(1)).get();
        checks.due("none is left", w.add(0, 0, 1), 0);
        checks.due("all are left", w.add(0, 1, 2), 16);
        w.set(3, 0, 1);
        checks.due("all but the first", w.add(0, 3, 2), 15);
        w.set(3, 0, 0);
        w.set(3, 15, 1);
        checks.due("all but the last", w.add(0, 3, 2), 15);
        checks.due("the last alone", w.add(1, 3, 2), 1);
    }

    // ---- Promise 6

    @Says(in = "Promise 6", clause = "Stores the product of two series")
    void multiplyStores() {
        PadeWorkbench w = Makers.series(101, "3+2x^15", "50+7x+x^15").get();
        w.multiply(0, 1, 2);
        // 150 modulo 101, and 3 + 100 for x^15
        checks.series("product", w, 2, 49, 21, 0, 0, 0, 0, 0, 0, 0, 0, 0, 0, 0, 0, 0, 2);
        w.multiply(0, 0, 0);
        checks.series("a square in its own place", w, 0, 9, 0, 0, 0, 0, 0, 0, 0, 0, 0, 0, 0, 0, 0, 0, 12);
        w.multiply(1, 0, 0);
        checks.series("in the place of b", w, 0, 46, 63, 0, 0, 0, 0, 0, 0, 0, 0, 0, 0, 0, 0, 0, 3);
    }

    @Says(in = "Promise 6", clause = "Returns the number of coefficients of the result that are not 0")
    void multiplyCounts() {
        PadeWorkbench w = Makers.row(2, flat(1)).get();
        checks.due("every second is 0 modulo 2", w.multiply(0, 0, 1), 8);
        checks.due("by 0", w.multiply(0, 3, 1), 0);
        w.set(3, 15, 1);
        checks.due("by x^15", w.multiply(0, 3, 1), 1);
        w.set(3, 15, 0);
        w.set(3, 0, 1);
        checks.due("by 1", w.multiply(0, 3, 1), 16);
    }

    // ---- Promise 7

    @Says(in = "Promise 7", clause = "Stores the series that, multiplied by a given series, gives 1")
    void invertStores() {
        for (int p : new int[] {2, 3, 101, 251}) {
            for (int c0 : new int[] {1, p - 1}) {
                PadeWorkbench w = new PadeWorkbench();
                w.setPrime(p);
                for (int k = 0; k < 16; k++) {
                    w.set(0, k, (c0 + 7 * k + k * k) % p);
                }
                w.invert(0, 1);
                w.multiply(0, 1, 2);
                checks.series("a series times its inverse", w, 2, 1);
                w.invert(0, 0);
                for (int k = 0; k < 16; k++) {
                    checks.due("in its own place", w.coefficient(0, k), w.coefficient(1, k));
                }
            }
        }
    }

    @Says(in = "Promise 7", clause = "Returns the number of coefficients of the result that are not 0")
    void invertCounts() {
        PadeWorkbench w = Makers.series(101, "1-x", "5", "1+x^15", "1+x^8").get();
        checks.due("of 1 - x", w.invert(0, 0), 16);
        checks.due("of 5", w.invert(1, 1), 1);
        checks.due("of 1 + x^15", w.invert(2, 2), 2);
        checks.due("of 1 + x^8", w.invert(3, 3), 2);
    }

    @Says(in = "Promise 7", clause = "REJECTED if c0 of the given series is 0")
    void invertRejects() {
        Twins twins = new Twins(checks, Makers.series(101, "1+x", "x", "101", "0"));
        for (int a = 1; a < 4; a++) {
            for (int to = 0; to < 4; to++) {
                twins.refuse(REJECTED, Call.INVERT, a, to);
            }
        }
        twins.allow(16, Call.INVERT, 0, 3);
        new Twins(checks, Makers::busy).refuse(REJECTED, Call.INVERT, 1, 1);
        new Twins(checks, Makers::full).refuse(REJECTED, Call.INVERT, 3, 0);
        new Twins(checks, Makers.series(2, "1")).allow(1, Call.INVERT, 0, 0);
    }

    // ---- Promise 8

    @Says(in = "Promise 8", clause = "Stores the series a(b(x)), which results when b is substituted for x in a")
    void substituteStores() {
        PadeWorkbench w = Makers.series(101, "5+2x+3x^2+x^15", "x+x^2").get();
        w.substitute(0, 1, 2);
        checks.series("a(b)", w, 2, 5, 2, 5, 6, 3, 0, 0, 0, 0, 0, 0, 0, 0, 0, 0, 1);
        w.substitute(0, 3, 2);
        checks.series("a(0) is c0", w, 2, 5);
        w.substitute(1, 1, 2);
        checks.series("b(b)", w, 2, 0, 1, 2, 2, 1);
        w.substitute(1, 1, 1);
        checks.series("b(b) in the place of b", w, 1, 0, 1, 2, 2, 1);
        w.substitute(0, 3, 0);
        checks.series("in the place of a", w, 0, 5);
        Checks.parse(w, 0, "x");
        Checks.parse(w, 1, "2x+3x^15");
        w.substitute(1, 0, 2);
        checks.series("b is x", w, 2, 0, 2, 0, 0, 0, 0, 0, 0, 0, 0, 0, 0, 0, 0, 0, 3);
    }

    @Says(in = "Promise 8", clause = "Returns the number of coefficients of the result that are not 0")
    void substituteCounts() {
        PadeWorkbench w = Makers.series(101, "1/1-x", "x", "x^8", "x^15").get();
        checks.due("x for x", w.substitute(0, 1, 1), 16);
        checks.due("x^8 for x", w.substitute(0, 2, 1), 2);
        checks.due("x^15 for x", w.substitute(0, 3, 1), 2);
        checks.due("x^15 in x^8", w.substitute(2, 3, 1), 0);
    }

    @Says(in = "Promise 8", clause = "REJECTED if c0 of b is not 0")
    void substituteRejects() {
        Twins twins = new Twins(checks, Makers.series(101, "x", "1+x", "100", "101+x"));
        for (int a = 0; a < 4; a++) {
            for (int b = 1; b < 3; b++) {
                twins.refuse(REJECTED, Call.SUBSTITUTE, a, b, a);
            }
        }
        twins.allow(2, Call.SUBSTITUTE, 1, 0, 3);
        twins.allow(2, Call.SUBSTITUTE, 1, 3, 3);
        new Twins(checks, Makers::busy).refuse(REJECTED, Call.SUBSTITUTE, 1, 0, 2);
        new Twins(checks, Makers::full).refuse(REJECTED, Call.SUBSTITUTE, 0, 0, 0);
    }

    // ---- Promise 9

    @Says(in = "Promise 9", clause = "Stores the derivative of a series")
    void derivativeStores() {
        PadeWorkbench w = Makers.row(251, flat(1)).get();
        w.derivative(0, 1);
        checks.series("k x^(k - 1)", w, 1, 1, 2, 3, 4, 5, 6, 7, 8, 9, 10, 11, 12, 13, 14, 15);
        w = Makers.row(2, flat(1)).get();
        w.derivative(0, 0);
        checks.series("modulo 2, in its own place", w, 0, 1, 0, 1, 0, 1, 0, 1, 0, 1, 0, 1, 0, 1, 0, 1);
        w = Makers.row(101, 100).get();
        w.derivative(0, 2);
        checks.series("of a number", w, 2);
    }

    @Says(in = "Promise 9", clause = "its coefficient c15 is 0")
    void derivativeEnds() {
        PadeWorkbench w = Makers.row(101, flat(100)).get();
        w.add(0, 0, 1);
        w.derivative(0, 1);
        checks.due("c15 in another place", w.coefficient(1, 15), 0);
        checks.due("c14 in another place", w.coefficient(1, 14), 86);
        w.derivative(0, 0);
        checks.due("c15 in its own place", w.coefficient(0, 15), 0);
        checks.due("c14 in its own place", w.coefficient(0, 14), 86);
    }

    @Says(in = "Promise 9", clause = "Returns the number of coefficients of the result that are not 0")
    void derivativeCounts() {
        PadeWorkbench w = Makers.row(13, flat(1)).get();
        checks.due("13 x^12 is 0", w.derivative(0, 1), 14);
        w = Makers.row(101, flat(1)).get();
        checks.due("none is 0 but c15", w.derivative(0, 1), 15);
        checks.due("of 0", w.derivative(3, 1), 0);
        w.set(3, 15, 1);
        checks.due("of x^15", w.derivative(3, 1), 1);
        w.set(2, 0, 1);
        checks.due("of 1", w.derivative(2, 1), 0);
    }
}
