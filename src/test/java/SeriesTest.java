import java.util.Arrays;

/** Promises 2 to 9: the prime, coefficients, and operations on series. */
public final class SeriesTest {
    private static final int INVALID = -2;
    private static final int REJECTED = -3;
    private static final int[] NO_SLOTS = {-1, 4, Integer.MIN_VALUE, Integer.MAX_VALUE};

    private final Checks checks = new Checks();

    public static void main(String[] args) {
        SeriesTest test = new SeriesTest();
        test.primes();
        test.primeEmptiesSeriesAndPoints();
        test.setAndCoefficient();
        test.wrongSlots();
        test.sums();
        test.products();
        test.inverses();
        test.substitutions();
        test.derivatives();
        test.resultOverItsSource();
        test.checks.end();
    }

    private static boolean prime(int p) {
        for (int d = 2; d < p; d++) {
            if (p % d == 0) {
                return false;
            }
        }
        return p >= 2 && p <= 251;
    }

    private void primes() {
        PadeWorkbench w = new PadeWorkbench();
        int now = 101;
        int refused = 0;
        for (int p = -3; p <= 300; p++) {
            boolean good = prime(p);
            checks.due("setPrime(" + p + ")", w.setPrime(p), good ? now : INVALID);
            now = good ? p : now;
            refused += good ? 0 : 1;
        }
        checks.due("setPrime(max)", w.setPrime(Integer.MAX_VALUE), INVALID);
        checks.due("setPrime(min)", w.setPrime(Integer.MIN_VALUE), INVALID);
        checks.due("errors", w.errorCount(0), refused + 2);
        checks.due("the last prime", w.setPrime(2), 251);
    }

    private void primeEmptiesSeriesAndPoints() {
        PadeWorkbench w = new PadeWorkbench();
        for (int slot = 0; slot < 4; slot++) {
            w.set(slot, 15, 1 + slot);
        }
        w.addPoint(3, 4);
        w.append(49);
        checks.due("setPrime to the same", w.setPrime(101), 101);
        for (int slot = 0; slot < 4; slot++) {
            checks.series("after setPrime", w, slot);
        }
        checks.due("points after setPrime", w.unattainable(0), INVALID);
        checks.due("text after setPrime", w.clearText(), 1);
        checks.due("undo of setPrime", w.undo(), 3);
        checks.due("c15 after undo", w.coefficient(3, 15), 4);
        checks.due("points after undo", w.unattainable(0), 0);
        checks.due("a refused prime keeps the series", w.setPrime(100), INVALID);
        checks.due("c15 after a refused prime", w.coefficient(3, 15), 4);
    }

    private void setAndCoefficient() {
        PadeWorkbench w = new PadeWorkbench();
        for (int k = 0; k < 16; k++) {
            checks.due("set", w.set(2, k, 3 * k), 0);
        }
        for (int k = 0; k < 16; k++) {
            checks.due("coefficient", w.coefficient(2, k), 3 * k);
            checks.due("coefficient of another", w.coefficient(1, k), 0);
        }
        checks.due("set again", w.set(2, 15, 100), 45);
        checks.due("set to 0", w.set(2, 15, 0), 100);
        for (int bad : new int[] {-1, 16, Integer.MIN_VALUE, Integer.MAX_VALUE}) {
            checks.due("set at " + bad, w.set(0, bad, 0), INVALID);
            checks.due("coefficient at " + bad, w.coefficient(0, bad), INVALID);
        }
        for (int bad : new int[] {-1, 101, Integer.MIN_VALUE, Integer.MAX_VALUE}) {
            checks.due("set to " + bad, w.set(0, 0, bad), INVALID);
        }
        w.setPrime(2);
        checks.due("set to 2 modulo 2", w.set(0, 0, 2), INVALID);
        checks.due("set to 1 modulo 2", w.set(0, 0, 1), 0);
        checks.due("errors", w.errorCount(0), 13);
    }

    private void wrongSlots() {
        PadeWorkbench w = new PadeWorkbench();
        w.set(0, 0, 1);
        for (int bad : NO_SLOTS) {
            checks.due("set in " + bad, w.set(bad, 0, 0), INVALID);
            checks.due("coefficient in " + bad, w.coefficient(bad, 0), INVALID);
            checks.due("add a " + bad, w.add(bad, 0, 0), INVALID);
            checks.due("add b " + bad, w.add(0, bad, 0), INVALID);
            checks.due("add to " + bad, w.add(0, 0, bad), INVALID);
            checks.due("multiply a " + bad, w.multiply(bad, 0, 0), INVALID);
            checks.due("multiply b " + bad, w.multiply(0, bad, 0), INVALID);
            checks.due("multiply to " + bad, w.multiply(0, 0, bad), INVALID);
            checks.due("invert a " + bad, w.invert(bad, 0), INVALID);
            // Series 1 has no inverse, and series 0 can't be put in: INVALID goes first.
            checks.due("invert to " + bad, w.invert(1, bad), INVALID);
            checks.due("substitute a " + bad, w.substitute(bad, 0, 0), INVALID);
            checks.due("substitute b " + bad, w.substitute(0, bad, 0), INVALID);
            checks.due("substitute to " + bad, w.substitute(0, 0, bad), INVALID);
            checks.due("derivative a " + bad, w.derivative(bad, 0), INVALID);
            checks.due("derivative to " + bad, w.derivative(0, bad), INVALID);
        }
        checks.due("errors", w.errorCount(0), 60);
        checks.due("no other errors", w.errorCount(1), 0);
        checks.series("nothing has changed", w, 0, 1);
        checks.due("one state alone was saved", w.undo(), 0);
    }

    private void sums() {
        PadeWorkbench w = Checks.with(7, "1+5x+3x^15");
        Checks.parse(w, 1, "2+2x+x^2+4x^15");
        checks.due("add", w.add(0, 1, 2), 2);
        checks.series("sum", w, 2, 3, 0, 1);
        checks.series("first summand", w, 0, 1, 5, 0, 0, 0, 0, 0, 0, 0, 0, 0, 0, 0, 0, 0, 3);
        checks.due("add to itself", w.add(0, 0, 0), 3);
        checks.series("double", w, 0, 2, 3, 0, 0, 0, 0, 0, 0, 0, 0, 0, 0, 0, 0, 0, 6);
    }

    private void products() {
        PadeWorkbench w = Checks.with(101, "3+2x^15");
        Checks.parse(w, 1, "50+7x+x^15");
        checks.due("multiply", w.multiply(0, 1, 3), 3);
        // 150 modulo 101; 21x; (3 + 100) x^15, and higher powers are dropped.
        checks.series("product", w, 3, 49, 21, 0, 0, 0, 0, 0, 0, 0, 0, 0, 0, 0, 0, 0, 2);
        checks.due("multiply by 0", w.multiply(0, 2, 3), 0);
        w = Checks.with(251, "250/1-x");
        checks.due("square", w.multiply(0, 0, 0), 16);
        for (int k = 0; k < 16; k++) {
            checks.due("coefficient of the square", w.coefficient(0, k), k + 1);
        }
    }

    private void inverses() {
        PadeWorkbench w = Checks.with(101, "1-x");
        checks.due("invert 1 - x", w.invert(0, 1), 16);
        int[] ones = new int[16];
        Arrays.fill(ones, 1);
        checks.series("inverse", w, 1, ones);
        checks.due("invert back", w.invert(1, 1), 2);
        checks.series("inverse of the inverse", w, 1, 1, 100);
        w = Checks.with(7, "3+x^8");
        checks.due("invert 3 + x^8", w.invert(0, 0), 2);
        // 1 / 3 is 5, and -1 / 9 is -4.
        checks.series("inverse", w, 0, 5, 0, 0, 0, 0, 0, 0, 0, 3);
        Checks.parse(w, 1, "x");
        checks.due("invert x", w.invert(1, 2), REJECTED);
        checks.due("invert 0", w.invert(3, 2), REJECTED);
        checks.due("rejected", w.errorCount(1), 2);
        w = Checks.with(2, "1+x");
        checks.due("invert modulo 2", w.invert(0, 1), 16);
    }

    private void substitutions() {
        PadeWorkbench w = Checks.with(101, "5+2x+3x^2+x^15");
        Checks.parse(w, 1, "x+x^2");
        // 5 + 2 (x + x^2) + 3 (x^2 + 2 x^3 + x^4) + x^15
        checks.due("substitute", w.substitute(0, 1, 2), 6);
        checks.series("a(b)", w, 2, 5, 2, 5, 6, 3, 0, 0, 0, 0, 0, 0, 0, 0, 0, 0, 1);
        checks.due("substitute 0", w.substitute(0, 3, 2), 1);
        checks.series("a(0)", w, 2, 5);
        checks.due("c0 of b is not 0", w.substitute(1, 0, 3), REJECTED);
        checks.due("c0 of a is free", w.substitute(0, 1, 3), 6);
        Checks.parse(w, 0, "1/1-x");
        Checks.parse(w, 1, "2x");
        w.substitute(0, 1, 0);
        int power = 1;
        for (int k = 0; k < 16; k++) {
            checks.due("2^k", w.coefficient(0, k), power);
            power = power * 2 % 101;
        }
    }

    private void derivatives() {
        PadeWorkbench w = Checks.with(7, "1/1-x");
        checks.due("derivative", w.derivative(0, 1), 13);
        checks.series("derivative", w, 1, 1, 2, 3, 4, 5, 6, 0, 1, 2, 3, 4, 5, 6, 0, 1);
        Checks.parse(w, 2, "4");
        checks.due("derivative of a number", w.derivative(2, 2), 0);
        w = Checks.with(251, "250x^15");
        checks.due("derivative of x^15", w.derivative(0, 0), 1);
        checks.due("its c14", w.coefficient(0, 14), 236);
    }

    /** The target may be one of the sources: the answer is as with another target. */
    private void resultOverItsSource() {
        String a = "3x+5x^2+7x^9/1+x^3";
        String b = "x+2x^2+9x^4/1-x";
        for (int to = 0; to < 3; to++) {
            PadeWorkbench w = Checks.with(101, a);
            Checks.parse(w, 1, b);
            PadeWorkbench plain = Checks.with(101, a);
            Checks.parse(plain, 1, b);
            same(w.multiply(0, 1, to), w, to, plain.multiply(0, 1, 3), plain);
            w.undo();
            plain.undo();
            same(w.substitute(0, 1, to), w, to, plain.substitute(0, 1, 3), plain);
            w.undo();
            plain.undo();
            same(w.derivative(1, to), w, to, plain.derivative(1, 3), plain);
            w.undo();
            plain.undo();
            w.set(1, 0, 3);
            plain.set(1, 0, 3);
            same(w.invert(1, to), w, to, plain.invert(1, 3), plain);
        }
    }

    private void same(int got, PadeWorkbench w, int to, int want, PadeWorkbench plain) {
        checks.due("answer with the target " + to, got, want);
        for (int k = 0; k < 16; k++) {
            checks.due("result in " + to, w.coefficient(to, k), plain.coefficient(3, k));
        }
    }
}
