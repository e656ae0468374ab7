/** The methods of the face, to be called with a row of arguments. */
enum Call {
    SET_PRIME(2, true, (w, a) -> w.setPrime(a[0])),
    SET(3, true, (w, a) -> w.set(a[0], a[1], a[2])),
    COEFFICIENT(4, false, (w, a) -> w.coefficient(a[0], a[1])),
    ADD(5, true, (w, a) -> w.add(a[0], a[1], a[2])),
    MULTIPLY(6, true, (w, a) -> w.multiply(a[0], a[1], a[2])),
    INVERT(7, true, (w, a) -> w.invert(a[0], a[1])),
    SUBSTITUTE(8, true, (w, a) -> w.substitute(a[0], a[1], a[2])),
    DERIVATIVE(9, true, (w, a) -> w.derivative(a[0], a[1])),
    APPEND(10, false, (w, a) -> w.append(a[0])),
    CLEAR_TEXT(11, false, (w, a) -> w.clearText()),
    PARSE(12, true, (w, a) -> w.parse(a[0])),
    NUMERATOR_DEGREE(13, false, (w, a) -> w.numeratorDegree(a[0], a[1], a[2])),
    DENOMINATOR_DEGREE(14, false, (w, a) -> w.denominatorDegree(a[0], a[1], a[2])),
    NUMERATOR(15, false, (w, a) -> w.numerator(a[0], a[1], a[2], a[3])),
    DENOMINATOR(16, false, (w, a) -> w.denominator(a[0], a[1], a[2], a[3])),
    ORDER(17, false, (w, a) -> w.order(a[0], a[1], a[2])),
    BLOCK_SIZE(18, false, (w, a) -> w.blockSize(a[0], a[1], a[2])),
    EVALUATE(19, false, (w, a) -> w.evaluate(a[0], a[1], a[2], a[3])),
    NORMAL_COUNT(20, false, (w, a) -> w.normalCount(a[0], a[1])),
    DETERMINANT(21, false, (w, a) -> w.determinant(a[0], a[1], a[2])),
    QUOTIENT_DIFFERENCE(22, false, (w, a) -> w.quotientDifference(a[0], a[1], a[2], a[3])),
    QUOTIENT_COUNT(23, false, (w, a) -> w.quotientCount(a[0], a[1])),
    QUOTIENT(24, false, (w, a) -> w.quotient(a[0], a[1], a[2], a[3])),
    COMPLEXITY(25, false, (w, a) -> w.complexity(a[0], a[1])),
    RECURRENCE(26, false, (w, a) -> w.recurrence(a[0], a[1], a[2])),
    ADD_POINT(27, true, (w, a) -> w.addPoint(a[0], a[1])),
    CLEAR_POINTS(28, true, (w, a) -> w.clearPoints()),
    INTERPOLANT(29, false, (w, a) -> w.interpolant(a[0], a[1], a[2])),
    UNATTAINABLE(30, false, (w, a) -> w.unattainable(a[0])),
    UNDO(31, false, (w, a) -> w.undo()),
    ERROR_COUNT(32, false, (w, a) -> w.errorCount(a[0])),
    DIGEST(33, false, (w, a) -> w.digest());

    /** The number of the method's promise. */
    final int promise;
    final boolean undoable;
    private final Body body;

    Call(int promise, boolean undoable, Body body) {
        this.promise = promise;
        this.undoable = undoable;
        this.body = body;
    }

    private interface Body {
        long answer(PadeWorkbench w, int[] a);
    }

    long on(PadeWorkbench w, int... arguments) {
        return body.answer(w, arguments);
    }

    String section() {
        return "Promise " + promise;
    }

    String with(int... arguments) {
        return name() + java.util.Arrays.toString(arguments);
    }
}
