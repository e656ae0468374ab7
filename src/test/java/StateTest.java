/** Promises 31 to 33: undo, the error counters and the digest. */
public final class StateTest {
    private static final int INVALID = -2;
    private static final int REJECTED = -3;

    private final Checks checks = new Checks();

    public static void main(String[] args) {
        StateTest test = new StateTest();
        test.undoKeepsFour();
        test.undoKeepsTextAndErrors();
        test.failuresSaveNothing();
        test.errorCounters();
        test.digestByHand();
        test.digestSeesEachPart();
        test.checks.end();
    }

    private static PadeWorkbench busy() {
        PadeWorkbench w = Checks.with(13, "1+2x+3x^2/1+x^2");
        Checks.parse(w, 1, "x+x^5");
        w.addPoint(1, 4);
        w.addPoint(3, 0);
        w.addPoint(2, 7);
        return w;
    }

    private void undoKeepsFour() {
        PadeWorkbench w = new PadeWorkbench();
        checks.due("undo of nothing", w.undo(), REJECTED);
        for (int i = 1; i <= 9; i++) {
            w.set(0, 0, i);
        }
        for (int left = 3; left >= 0; left--) {
            checks.due("undo", w.undo(), left);
            checks.due("c0 after undo", w.coefficient(0, 0), 5 + left);
        }
        checks.due("undo of what was dropped", w.undo(), REJECTED);
        checks.due("c0 stays", w.coefficient(0, 0), 5);
        checks.due("rejected", w.errorCount(1), 2);
    }

    private void undoKeepsTextAndErrors() {
        PadeWorkbench w = new PadeWorkbench();
        w.set(0, 0, 1);
        w.append(49);
        w.append(128);
        w.undo();
        checks.due("the text is kept", w.clearText(), 1);
        checks.due("the errors are kept", w.errorCount(0), 1);
        w.setPrime(7);
        w.setPrime(11);
        w.undo();
        checks.due("the prime is undone", w.setPrime(5), 7);
    }

    private void failuresSaveNothing() {
        PadeWorkbench w = new PadeWorkbench();
        w.set(0, 0, 1);
        w.setPrime(4);
        w.set(0, 0, 101);
        w.add(0, 0, 4);
        w.multiply(0, 4, 0);
        w.invert(1, 0);
        w.substitute(0, 0, 0);
        w.derivative(0, 4);
        w.parse(4);
        w.parse(0);
        Checks.parse(w, 0, "1/x");
        w.addPoint(101, 0);
        w.undo();
        checks.due("one state alone was saved", w.undo(), REJECTED);
    }

    private void errorCounters() {
        PadeWorkbench w = new PadeWorkbench();
        checks.due("errorCount(-1)", w.errorCount(-1), INVALID);
        checks.due("errorCount(3)", w.errorCount(3), INVALID);
        checks.due("errorCount(max)", w.errorCount(Integer.MAX_VALUE), INVALID);
        checks.due("errorCount(min)", w.errorCount(Integer.MIN_VALUE), INVALID);
        checks.due("errorCount(0)", w.errorCount(0), 4);
        w.undo();
        w.undo();
        checks.due("errorCount(1)", w.errorCount(1), 2);
        for (int i = 0; i < 83; i++) {
            w.append(32);
        }
        checks.due("errorCount(2)", w.errorCount(2), 3);
        checks.due("errorCount(0) again", w.errorCount(0), 4);
    }

    private static long mix(long h, int... values) {
        for (int v : values) {
            h = 31 * h + v;
        }
        return h;
    }

    private void digestByHand() {
        PadeWorkbench w = busy();
        w.append(200);
        w.append(201);
        w.addPoint(1, 1);
        long h = mix(12475, 2, 1, 0, 5, 4, 13);
        for (int slot = 0; slot < 4; slot++) {
            for (int k = 0; k < 16; k++) {
                h = mix(h, w.coefficient(slot, k));
            }
            for (int m = 0; m < 8; m++) {
                h = mix(h, w.order(slot, m, 7 - m), w.numeratorDegree(slot, m, 7 - m));
            }
            h = mix(h, w.complexity(slot, 16), w.normalCount(slot, 7));
        }
        h = mix(h, 3, 1, 4, 3, 0, 2, 7);
        h = mix(h, w.unattainable(0), w.unattainable(1), w.unattainable(2));
        checks.due("digest", w.digest(), h);
    }

    private void digestSeesEachPart() {
        for (int part = 0; part < 10; part++) {
            PadeWorkbench w = busy();
            long before = w.digest();
            if (part == 0) {
                w.append(32);
            } else if (part == 1) {
                w.append(-1);
            } else if (part == 2) {
                w.undo();
            } else if (part == 3) {
                w.addPoint(4, 1);
            } else if (part < 8) {
                w.set(part - 4, 15, 5);
            } else if (part == 8) {
                w.setPrime(17);
            } else {
                w.invert(3, 0);
            }
            checks.hold("part " + part + " is seen", w.digest() != before);
        }
    }
}
