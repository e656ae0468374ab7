import java.math.BigInteger;
import java.util.ArrayList;
import java.util.List;
import java.util.function.Supplier;

/** The clauses of UNDO and ERRORS, and of promises 31 to 33 but for their argument lines. */
final class StateEdges {
    private static final int NONE = -1;
    private static final int INVALID = -2;
    private static final int REJECTED = -3;
    private static final int FULL = -4;
    private static final int MAX = Integer.MAX_VALUE;
    private static final int MIN = Integer.MIN_VALUE;

    private final Checks checks;

    StateEdges(Checks checks) {
        this.checks = checks;
    }

    /** A workbench whose c0 was set to 1, 2, ..., count. */
    private static PadeWorkbench counted(int count) {
        PadeWorkbench w = new PadeWorkbench();
        for (int i = 1; i <= count; i++) {
            w.set(0, 0, i);
        }
        return w;
    }

    // ---- UNDO

    @Says(in = "UNDO", clause = "Every method that is marked \"undoable\" saves the prime, the series and the points "
            + "on an undo stack when it succeeds, also if it changes nothing")
    void savedTogether() {
        PadeWorkbench w = new PadeWorkbench();
        w.setPrime(13);
        w.set(0, 15, 12);
        w.set(3, 0, 7);
        w.addPoint(12, 11);
        w.setPrime(2);
        checks.due("undo of setPrime", w.undo(), 3);
        checks.due("c15 of 0", w.coefficient(0, 15), 12);
        checks.due("c0 of 3", w.coefficient(3, 0), 7);
        checks.due("the point's y", w.interpolant(0, 0, 0), 11);
        checks.due("the point's x", w.addPoint(12, 11), REJECTED);
        checks.due("the prime", w.setPrime(2), 13);
    }

    /** The points themselves are saved, and not only how many there were. */
    @Says(in = "UNDO", clause = "Every method that is marked \"undoable\" saves the prime, the series and the points "
            + "on an undo stack when it succeeds, also if it changes nothing")
    void savedPoints() {
        for (int count = 1; count <= 10; count++) {
            Supplier<PadeWorkbench> maker = straight(count);
            PadeWorkbench w = maker.get();
            w.clearPoints();
            w.addPoint(100, 100);
            w.undo();
            checks.due("undo of clearPoints", w.undo(), Math.min(count, 2));
            checks.due("the first x", w.addPoint(0, 100), REJECTED);
            checks.due("the x that was there in between", w.addPoint(100, 100), count < 10 ? count + 1 : FULL);
            PadeWorkbench other = maker.get();
            other.setPrime(2);
            other.addPoint(0, 0);
            other.addPoint(1, 1);
            other.undo();
            other.undo();
            other.undo();
            checks.due("the first y", other.interpolant(count - 1, 0, 0), 5);
            checks.due("the other y", other.interpolant(count - 1, 0, 1), count > 1 ? 7 : 0);
            checks.due("every y", other.unattainable(count - 1), 0);
        }
    }

    /** The points 0, 1, ... with y = 5 + 7x. */
    private static Supplier<PadeWorkbench> straight(int count) {
        return () -> {
            PadeWorkbench w = new PadeWorkbench();
            for (int x = 0; x < count; x++) {
                w.addPoint(x, 5 + 7 * x);
            }
            return w;
        };
    }

    /** Each of these calls leaves the state as it is, and saves it. */
    @Says(in = "UNDO", clause = "Every method that is marked \"undoable\" saves the prime, the series and the points "
            + "on an undo stack when it succeeds, also if it changes nothing")
    void idleCallsAreSaved() {
        PadeWorkbench w = new PadeWorkbench();
        w.append('0');
        checks.due("setPrime", w.setPrime(101) + w.undo(), 101);
        checks.due("set", w.set(3, 15, 0) + w.undo(), 0);
        checks.due("add", w.add(0, 1, 2) + w.undo(), 0);
        checks.due("multiply", w.multiply(0, 1, 2) + w.undo(), 0);
        checks.due("substitute", w.substitute(0, 1, 2) + w.undo(), 0);
        checks.due("derivative", w.derivative(0, 0) + w.undo(), 0);
        checks.due("parse", w.parse(0) + w.undo(), 0);
        checks.due("clearPoints", w.clearPoints() + w.undo(), 0);
        w.set(0, 0, 1);
        checks.due("invert", w.invert(0, 0), 1);
        checks.due("its undo", w.undo(), 1);
        checks.due("no call was refused", w.errorCount(0) + w.errorCount(1), 0);
    }

    /** All other methods save nothing. */
    @Says(in = "UNDO", clause = "Every method that is marked \"undoable\" saves the prime, the series and the points "
            + "on an undo stack when it succeeds, also if it changes nothing")
    void otherMethodsSaveNothing() {
        int[][] arguments = {{0, 0}, {32}, {}, {0, 0, 0}, {0, 0, 0}, {0, 0, 0, 0}, {0, 0, 0, 0}, {0, 0, 0}, {0, 0, 0},
            {0, 0, 0, 0}, {0, 0}, {0, 0, 0}, {0, 0, 1, 0}, {0, 0}, {0, 0, 0, 0}, {0, 1}, {0, 1, 1}, {0, 0, 0}, {0},
            {}, {0}, {}};
        int next = 0;
        for (Call call : Call.values()) {
            if (!call.undoable) {
                PadeWorkbench w = counted(2);
                call.on(w, arguments[next++]);
                checks.due(call + " and undo", w.undo(), call == Call.UNDO ? 0 : 1);
            }
        }
    }

    @Says(in = "UNDO", clause = "The stack keeps the latest 4 saved states and drops older ones")
    void latestFour() {
        for (int saved = 0; saved <= 10; saved++) {
            PadeWorkbench w = counted(saved);
            int kept = Math.min(saved, 4);
            for (int i = 1; i <= kept; i++) {
                checks.due("undo " + i + " of " + saved, w.undo(), kept - i);
                checks.due("c0 after it", w.coefficient(0, 0), saved - i);
            }
            checks.due("one undo more", w.undo(), REJECTED);
            checks.due("c0 after that", w.coefficient(0, 0), saved - kept);
        }
    }

    /** What undo has taken from the stack makes room again. */
    @Says(in = "UNDO", clause = "The stack keeps the latest 4 saved states and drops older ones")
    void roomAfterUndo() {
        PadeWorkbench w = counted(6);
        w.undo();
        w.undo();
        w.set(0, 0, 50);
        w.set(0, 0, 60);
        w.set(0, 0, 70);
        int[] want = {60, 50, 4, 3};
        for (int i = 0; i < 4; i++) {
            checks.due("undo", w.undo(), 3 - i);
            checks.due("c0", w.coefficient(0, 0), want[i]);
        }
        checks.due("one undo more", w.undo(), REJECTED);
        w.set(0, 0, 9);
        checks.due("after an empty stack", w.undo(), 0);
        checks.due("c0", w.coefficient(0, 0), 3);
    }

    @Says(in = "UNDO", clause = "The text and the error counters are not saved")
    void notSaved() {
        PadeWorkbench w = new PadeWorkbench();
        Checks.write(w, "5");
        w.set(0, 0, 1);
        w.append('x');
        w.append(128);
        w.invert(3, 3);
        w.undo();
        checks.due("the text", w.parse(1), 1);
        checks.due("5x", w.coefficient(1, 1), 5);
        checks.due("the length of the text", w.clearText(), 2);
        w.undo();
        checks.due("the text stays empty", w.clearText(), 0);
        checks.due("INVALID", w.errorCount(0), 1);
        checks.due("REJECTED", w.errorCount(1), 1);
        checks.due("FULL", w.errorCount(2), 0);
    }

    // ---- ERRORS

    @Says(in = "ERRORS", clause = "A method that fails returns an error code and changes nothing except the counter "
            + "of that error, which grows by 1")
    void failures() {
        Twins busy = new Twins(checks, Makers::busy);
        busy.refuse(INVALID, Call.SET_PRIME, 4);
        busy.refuse(INVALID, Call.SET, 0, 0, 13);
        busy.refuse(REJECTED, Call.INVERT, 1, 0);
        busy.refuse(REJECTED, Call.SUBSTITUTE, 0, 0, 0);
        busy.refuse(REJECTED, Call.ADD_POINT, 7, 0);
        busy.refuse(INVALID, Call.ERROR_COUNT, 3);
        Twins full = new Twins(checks, Makers::full);
        full.refuse(FULL, Call.APPEND, 49);
        full.refuse(FULL, Call.ADD_POINT, 1, 0);
        new Twins(checks, Makers.text(101, "1/x")).refuse(REJECTED, Call.PARSE, 0);
        new Twins(checks, Makers.fresh()).refuse(REJECTED, Call.UNDO);
        new Twins(checks, Makers.fresh()).refuse(INVALID, Call.UNATTAINABLE, 0);
    }

    @Says(in = "ERRORS", clause = "If several errors apply, INVALID is returned before REJECTED, "
            + "and REJECTED before FULL")
    void orderOfErrors() {
        Twins full = new Twins(checks, Makers::full);
        // The point 0 is there already, and there are ten.
        full.refuse(REJECTED, Call.ADD_POINT, 0, 0);
        full.refuse(REJECTED, Call.ADD_POINT, 90, 100);
        full.refuse(INVALID, Call.ADD_POINT, 0, 101);
        full.refuse(INVALID, Call.ADD_POINT, 0, -1);
        full.refuse(INVALID, Call.ADD_POINT, 101, 0);
        full.refuse(INVALID, Call.ADD_POINT, MAX, MIN);
        full.refuse(INVALID, Call.APPEND, 128);
        full.refuse(INVALID, Call.APPEND, -1);
        // Series 1 of busy has no inverse, and series 0 can't be substituted.
        Twins busy = new Twins(checks, Makers::busy);
        busy.refuse(INVALID, Call.INVERT, 1, 4);
        busy.refuse(INVALID, Call.INVERT, 1, -1);
        busy.refuse(INVALID, Call.SUBSTITUTE, 4, 0, 0);
        busy.refuse(INVALID, Call.SUBSTITUTE, 0, 0, 4);
        busy.refuse(INVALID, Call.ADD_POINT, 7, 13);
        new Twins(checks, Makers.text(101, "1/x")).refuse(INVALID, Call.PARSE, 4);
    }

    @Says(in = "ERRORS", clause = "NONE is returned only if no error applies")
    void noneIsNoError() {
        Supplier<PadeWorkbench> maker = Makers.series(101, "1/1-x", "0");
        Twins twins = new Twins(checks, maker);
        twins.ask(NONE, Call.EVALUATE, 0, 0, 1, 1);
        twins.refuse(INVALID, Call.EVALUATE, 0, 0, 1, 102);
        twins.refuse(INVALID, Call.EVALUATE, 4, 0, 1, 1);
        twins.ask(NONE, Call.NUMERATOR_DEGREE, 1, 0, 15);
        twins.refuse(INVALID, Call.NUMERATOR_DEGREE, 1, 0, 16);
        twins.ask(NONE, Call.BLOCK_SIZE, 1, 15, 0);
        twins.refuse(INVALID, Call.BLOCK_SIZE, 1, 15, 1);
        twins.ask(NONE, Call.QUOTIENT_DIFFERENCE, 1, 0, 8, 0);
        twins.refuse(INVALID, Call.QUOTIENT_DIFFERENCE, 1, 1, 8, 0);
        twins.ask(NONE, Call.QUOTIENT, 1, 15, 0, 16);
        twins.refuse(INVALID, Call.QUOTIENT, 1, 15, 0, 17);
        twins.refuse(INVALID, Call.QUOTIENT, 1, 15, MAX, -1);
        twins.refuse(INVALID, Call.QUOTIENT, 1, 16, MAX, 0);
        twins.refuse(INVALID, Call.QUOTIENT, 4, 15, MAX, 0);
        twins.ask(NONE, Call.RECURRENCE, 1, 16, MAX);
        twins.refuse(INVALID, Call.RECURRENCE, 1, 17, MAX);
        twins.refuse(INVALID, Call.RECURRENCE, 1, 0, MAX);
        twins.refuse(INVALID, Call.RECURRENCE, -1, 1, MAX);
    }

    @Says(in = "ERRORS", clause = "NONE = -1: Returned where there is no such value")
    void none() {
        checks.due("NONE", PadeWorkbench.NONE, -1);
        checks.due("the degree of 0", new PadeWorkbench().numeratorDegree(0, 0, 0), PadeWorkbench.NONE);
    }

    @Says(in = "ERRORS", clause = "INVALID = -2: An argument is out of range")
    void invalid() {
        checks.due("INVALID", PadeWorkbench.INVALID, -2);
        checks.due("no such series", new PadeWorkbench().coefficient(4, 0), PadeWorkbench.INVALID);
    }

    @Says(in = "ERRORS", clause = "REJECTED = -3: The present state does not allow the call")
    void rejected() {
        checks.due("REJECTED", PadeWorkbench.REJECTED, -3);
        checks.due("nothing to undo", new PadeWorkbench().undo(), PadeWorkbench.REJECTED);
    }

    @Says(in = "ERRORS", clause = "FULL = -4: A capacity would be exceeded")
    void full() {
        checks.due("FULL", PadeWorkbench.FULL, -4);
        checks.due("an eleventh point", Makers.full().addPoint(1, 1), PadeWorkbench.FULL);
        checks.due("a byte 81", Makers.full().append(49), PadeWorkbench.FULL);
    }

    // ---- Promise 31

    @Says(in = "Promise 31", clause = "Restores the latest saved state and removes it from the undo stack")
    void undoRestores() {
        PadeWorkbench w = counted(3);
        w.undo();
        checks.due("c0 before the third", w.coefficient(0, 0), 2);
        w.undo();
        checks.due("c0 before the second", w.coefficient(0, 0), 1);
        // What is restored does not hang together with what is changed and saved afterwards.
        w.addPoint(4, 4);
        w.addPoint(5, 9);
        w.undo();
        w.addPoint(5, 1);
        w.clearPoints();
        w.undo();
        checks.due("the points", w.clearPoints(), 2);
        w.undo();
        checks.due("the slope is that of the new point", w.interpolant(1, 0, 1), 98);
        checks.due("c0", w.coefficient(0, 0), 1);
    }

    @Says(in = "Promise 31", clause = "Returns the number of states that are left on the stack")
    void undoCounts() {
        for (int saved = 1; saved <= 6; saved++) {
            checks.due("undo of " + saved, counted(saved).undo(), Math.min(saved, 4) - 1);
        }
        PadeWorkbench w = counted(4);
        w.set(0, 16, 0);
        checks.due("a refused call is not on the stack", w.undo(), 3);
        w.coefficient(0, 0);
        checks.due("nor is a question", w.undo(), 2);
    }

    @Says(in = "Promise 31", clause = "REJECTED if the stack is empty")
    void undoOfNothing() {
        new Twins(checks, Makers.fresh()).refuse(REJECTED, Call.UNDO);
        new Twins(checks, () -> {
            PadeWorkbench w = counted(5);
            for (int i = 0; i < 4; i++) {
                w.undo();
            }
            return w;
        }).refuse(REJECTED, Call.UNDO);
        new Twins(checks, () -> {
            PadeWorkbench w = Makers.text(101, "1+x").get();
            w.undo();
            return w;
        }).refuse(REJECTED, Call.UNDO);
    }

    // ---- Promise 32

    @Says(in = "Promise 32", clause = "Returns an error counter")
    void errorCounters() {
        for (int kind = 0; kind < 3; kind++) {
            new Twins(checks, Makers.fresh()).ask(0, Call.ERROR_COUNT, kind);
            new Twins(checks, Makers::busy).ask(1, Call.ERROR_COUNT, kind);
            new Twins(checks, Makers::full).ask(0, Call.ERROR_COUNT, kind);
        }
    }

    @Says(in = "Promise 32", clause = "Returns the number of failed calls of that kind")
    void failedCalls() {
        PadeWorkbench w = Makers.full();
        for (int i = 1; i <= 40; i++) {
            w.coefficient(0, 16);
            w.invert(3, 3);
            w.invert(3, 3);
            w.append(32);
            w.addPoint(1, 1);
            w.append(32);
            w.unattainable(9);
            checks.due("INVALID", w.errorCount(0), i);
            checks.due("REJECTED", w.errorCount(1), 2 * i);
            checks.due("FULL", w.errorCount(2), 3 * i);
        }
    }

    @Says(in = "Promise 32", clause = "INVALID (which is counted, too) if kind is out of range")
    void noSuchCounter() {
        PadeWorkbench w = new PadeWorkbench();
        int[] wrong = {-1, 3, -2, -3, 4, MIN, MAX, MIN + 1, MAX - 1};
        for (int i = 0; i < wrong.length; i++) {
            checks.due("errorCount(" + wrong[i] + ")", w.errorCount(wrong[i]), INVALID);
            checks.due("errorCount(0) after it", w.errorCount(0), i + 1);
        }
        checks.due("errorCount(1)", w.errorCount(1), 0);
        checks.due("errorCount(2)", w.errorCount(2), 0);
    }

    // ---- Promise 33

    /** What the digest of a workbench is made from, in the document's order. */
    private static List<Integer> values(PadeWorkbench w, int[] head, int[]... points) {
        List<Integer> values = new ArrayList<>();
        for (int v : head) {
            values.add(v);
        }
        for (int slot = 0; slot < 4; slot++) {
            for (int k = 0; k < 16; k++) {
                values.add(w.coefficient(slot, k));
            }
            for (int m = 0; m <= 7; m++) {
                values.add(w.order(slot, m, 7 - m));
                values.add(w.numeratorDegree(slot, m, 7 - m));
            }
            values.add(w.complexity(slot, 16));
            values.add(w.normalCount(slot, 7));
        }
        values.add(points.length);
        for (int[] point : points) {
            values.add(point[0]);
            values.add(point[1]);
        }
        for (int m = 0; m < points.length; m++) {
            values.add(w.unattainable(m));
        }
        return values;
    }

    /** The hash without wrapping around. */
    private static BigInteger exact(List<Integer> values) {
        BigInteger h = BigInteger.valueOf(12475);
        for (int v : values) {
            h = h.multiply(BigInteger.valueOf(31)).add(BigInteger.valueOf(v));
        }
        return h;
    }

    private void digestIs(String what, PadeWorkbench w, int[] head, int[]... points) {
        checks.due(what, w.digest(), exact(values(w, head, points)).longValue());
    }

    private static int[] head(int invalid, int rejected, int full, int length, int states, int prime) {
        return new int[] {invalid, rejected, full, length, states, prime};
    }

    @Says(in = "Promise 33", clause = "Returns a hash of the state")
    void digestChangesNothing() {
        new Twins(checks, Makers.fresh()).ask(new PadeWorkbench().digest(), Call.DIGEST);
        new Twins(checks, Makers::busy).ask(Makers.busy().digest(), Call.DIGEST);
        new Twins(checks, Makers::full).ask(Makers.full().digest(), Call.DIGEST);
        // The way to a state is not seen in it.
        PadeWorkbench w = counted(1);
        w.undo();
        checks.due("a state that is back", w.digest(), new PadeWorkbench().digest());
    }

    @Says(in = "Promise 33", clause = "It starts with h = 12475")
    void digestOfNewObject() {
        long h = 12475;
        int[] head = head(0, 0, 0, 0, 0, 101);
        for (int v : head) {
            h = 31 * h + v;
        }
        for (int slot = 0; slot < 4; slot++) {
            for (int k = 0; k < 16; k++) {
                h = 31 * h;
            }
            for (int m = 0; m <= 7; m++) {
                h = 31 * (31 * h + 16) - 1;
            }
            h = 31 * 31 * h;
        }
        checks.due("the digest of a new object", new PadeWorkbench().digest(), 31 * h);
    }

    @Says(in = "Promise 33", clause = "For each of the following values v, in this order, h becomes 31 * h + v "
            + "(long arithmetic, overflow wraps)")
    void overflow() {
        int negative = 0;
        for (int i = 0; i < 20; i++) {
            PadeWorkbench w = counted(i);
            BigInteger h = exact(values(w, head(0, 0, 0, 0, Math.min(i, 4), 101)));
            checks.hold("a long is too small", h.bitLength() > 64);
            checks.due("digest " + i, w.digest(), h.longValue());
            negative += w.digest() < 0 ? 1 : 0;
        }
        checks.hold("both signs are met", negative > 0 && negative < 20);
    }

    @Says(in = "Promise 33", clause = "errorCount(0) to errorCount(2), the length of the text, the number of states on "
            + "the undo stack, the prime")
    void digestHead() {
        PadeWorkbench w = failing();
        digestIs("errors and a full text", w, head(1, 2, 3, 80, 0, 101));
        w.clearText();
        digestIs("an empty text", w, head(1, 2, 3, 0, 0, 101));
        for (int prime : new int[] {2, 101, 251}) {
            w = failing();
            w.setPrime(prime);
            digestIs("the prime " + prime, w, head(1, 2, 3, 80, 1, prime));
        }
        for (int states = 0; states <= 6; states++) {
            w = failing();
            for (int i = 0; i < states; i++) {
                w.clearPoints();
            }
            digestIs(states + " saved states", w, head(1, 2, 3, 80, Math.min(states, 4), 101));
        }
    }

    /** One call was INVALID, two REJECTED, three FULL; no state is saved. */
    private static PadeWorkbench failing() {
        PadeWorkbench w = new PadeWorkbench();
        w.append(128);
        w.undo();
        w.undo();
        Checks.write(w, " ".repeat(83));
        return w;
    }

    @Says(in = "Promise 33", clause = "for each series its coefficients c0 to c15, then for each m from 0 to 7 "
            + "order(slot, m, 7 - m) and numeratorDegree(slot, m, 7 - m), then complexity(slot, 16) and "
            + "normalCount(slot, 7)")
    void digestSeries() {
        String[] texts = {"0", "1", "x^15", "x^7", "x^8", "1+x^4", "1+2x+3x^2/1+x^2", "5/1-3x", "1+x/1+x+x^2+x^5"};
        for (String text : texts) {
            for (int slot = 0; slot < 4; slot++) {
                PadeWorkbench w = new PadeWorkbench();
                Checks.parse(w, slot, text);
                Checks.parse(w, 3 - slot, "2+x");
                digestIs(text + " in " + slot, w, head(0, 0, 0, 3, 2, 101));
            }
        }
    }

    @Says(in = "Promise 33", clause = "the number of points")
    void digestCountsPoints() {
        for (int count = 0; count <= 10; count++) {
            int[][] points = new int[count][];
            for (int i = 0; i < count; i++) {
                points[i] = new int[] {i, 0};
            }
            PadeWorkbench w = Makers.points(101, points).get();
            digestIs(count + " points", w, head(0, 0, 0, 0, Math.min(count + 1, 4), 101), points);
        }
    }

    @Says(in = "Promise 33", clause = "for each point, in the order in which they were added, x and y")
    void digestOrdersPoints() {
        int[][] points = {{5, 7}, {7, 5}, {0, 100}, {100, 0}};
        int[][] turned = {{100, 0}, {0, 100}, {7, 5}, {5, 7}};
        PadeWorkbench a = Makers.points(101, points).get();
        PadeWorkbench b = Makers.points(101, turned).get();
        digestIs("points", a, head(0, 0, 0, 0, 4, 101), points);
        digestIs("the same points in another order", b, head(0, 0, 0, 0, 4, 101), turned);
        checks.hold("the order is seen", a.digest() != b.digest());
    }

    @Says(in = "Promise 33", clause = "for each m from 0 to the number of points minus 1 unattainable(m)")
    void digestMissedPoints() {
        int[][] points = {{1, 0}, {2, 0}, {3, 6}, {4, 0}, {9, 1}};
        PadeWorkbench w = Makers.points(101, points).get();
        int missed = 0;
        for (int m = 0; m < 5; m++) {
            missed += w.unattainable(m);
        }
        checks.hold("some are missed", missed > 0);
        digestIs("points that are missed", w, head(0, 0, 0, 0, 4, 101), points);
        w = new PadeWorkbench();
        digestIs("no points", w, head(0, 0, 0, 0, 0, 101));
    }

    @Says(in = "Promise 33", clause = "Returns the hash")
    void digests() {
        // One byte more in the text adds 31 to the power of the number of values that follow.
        PadeWorkbench w = new PadeWorkbench();
        long h = w.digest();
        w.append(32);
        long weight = 1;
        for (int after = 4; after < 6 + 4 * 34 + 1; after++) {
            weight *= 31;
        }
        checks.due("one byte more", w.digest() - h, weight);
        w.clearText();
        checks.due("and away again", w.digest(), h);
    }
}
