import java.util.Arrays;

/**
 * A workbench for rational approximation over a prime field: truncated power series, Pade
 * approximants with their blocks, Toeplitz determinants, the quotient-difference scheme,
 * Euclidean quotients, linear recurrences, and rational interpolation.
 *
 * <p>All rows that a call works on are made with the object and used again, so that no call
 * makes an object of its own.
 */
public final class PadeWorkbench {
    public static final int NONE = -1;
    public static final int INVALID = -2;
    public static final int REJECTED = -3;
    public static final int FULL = -4;

    private static final int SLOTS = 4;
    private static final int TERMS = 16;
    /** One more than TERMS, because Euclid's first polynomial reaches x^16. */
    private static final int ROW = 17;
    private static final int POINTS = 10;
    private static final int TEXT_BYTES = 80;
    /** A power of 2, so that a mask keeps every place of the undo ring in range. */
    private static final int STATES = 4;
    private static final int ERROR_KINDS = 3;
    private static final int FIRST_PRIME = 101;
    private static final int LARGEST_PRIME = 251;
    private static final int SYNTAX_ERROR = -10;
    private static final int DIGEST_START = 12475;
    private static final int DIGEST_SUM = 7;

    private final State now = new State();
    private final History history = new History();
    private final FractionText text = new FractionText();
    private final Euclid euclid = new Euclid();
    private final Fraction fraction = new Fraction();
    private final Toeplitz toeplitz = new Toeplitz();
    private final Scheme scheme = new Scheme();
    private final Register register = new Register();
    private final int[] result = new int[TERMS];
    private final int[] spare = new int[TERMS];
    private final int[] errors = new int[ERROR_KINDS];

    public PadeWorkbench() {
    }

    // ---- field and series

    public int setPrime(int p) {
        if (!isPrime(p)) {
            return fail(INVALID);
        }
        int previous = now.prime;
        history.keep(now);
        now.restart(p);
        return previous;
    }

    public int set(int slot, int index, int value) {
        if (!isSlot(slot) || !isTerm(index) || !isElement(value)) {
            return fail(INVALID);
        }
        history.keep(now);
        int previous = now.series[slot][index];
        now.series[slot][index] = value;
        return previous;
    }

    public int coefficient(int slot, int index) {
        if (!isSlot(slot) || !isTerm(index)) {
            return fail(INVALID);
        }
        return now.series[slot][index];
    }

    public int add(int a, int b, int to) {
        if (!isSlot(a) || !isSlot(b) || !isSlot(to)) {
            return fail(INVALID);
        }
        Series.sum(now.series[a], now.series[b], result, now.prime);
        return store(to);
    }

    public int multiply(int a, int b, int to) {
        if (!isSlot(a) || !isSlot(b) || !isSlot(to)) {
            return fail(INVALID);
        }
        Series.product(now.series[a], now.series[b], result, now.prime);
        return store(to);
    }

    public int invert(int a, int to) {
        if (!isSlot(a) || !isSlot(to)) {
            return fail(INVALID);
        }
        if (now.series[a][0] == 0) {
            return fail(REJECTED);
        }
        Series.reciprocal(now.series[a], result, now.prime);
        return store(to);
    }

    public int substitute(int a, int b, int to) {
        if (!isSlot(a) || !isSlot(b) || !isSlot(to)) {
            return fail(INVALID);
        }
        if (now.series[b][0] != 0) {
            return fail(REJECTED);
        }
        composeIntoResult(now.series[a], now.series[b]);
        return store(to);
    }

    public int derivative(int a, int to) {
        if (!isSlot(a) || !isSlot(to)) {
            return fail(INVALID);
        }
        Series.slope(now.series[a], result, now.prime);
        return store(to);
    }

    // ---- text

    public int append(int value) {
        if (value < 0 || value > 127) {
            return fail(INVALID);
        }
        if (text.length >= TEXT_BYTES) {
            return fail(FULL);
        }
        text.put(value);
        return text.length;
    }

    public int clearText() {
        int previous = text.length;
        text.length = 0;
        return previous;
    }

    public int parse(int slot) {
        if (!isSlot(slot)) {
            return fail(INVALID);
        }
        if (!text.readFraction(now.prime)) {
            return SYNTAX_ERROR - text.position;
        }
        if (text.bottom[0] == 0) {
            return fail(REJECTED);
        }
        Series.reciprocal(text.bottom, spare, now.prime);
        Series.product(text.top, spare, result, now.prime);
        return store(slot);
    }

    // ---- Pade approximants

    public int numeratorDegree(int slot, int m, int n) {
        if (!isApproximant(slot, m, n)) {
            return fail(INVALID);
        }
        approximate(slot, m, n);
        return fraction.top.degree;
    }

    public int denominatorDegree(int slot, int m, int n) {
        if (!isApproximant(slot, m, n)) {
            return fail(INVALID);
        }
        approximate(slot, m, n);
        return fraction.bottom.degree;
    }

    public int numerator(int slot, int m, int n, int index) {
        if (!isApproximant(slot, m, n) || !isTerm(index)) {
            return fail(INVALID);
        }
        approximate(slot, m, n);
        return fraction.top.row[index];
    }

    public int denominator(int slot, int m, int n, int index) {
        if (!isApproximant(slot, m, n) || !isTerm(index)) {
            return fail(INVALID);
        }
        approximate(slot, m, n);
        return fraction.bottom.row[index];
    }

    public int order(int slot, int m, int n) {
        if (!isApproximant(slot, m, n)) {
            return fail(INVALID);
        }
        approximate(slot, m, n);
        return fraction.agreement(now.series[slot], now.prime);
    }

    public int blockSize(int slot, int m, int n) {
        if (!isApproximant(slot, m, n)) {
            return fail(INVALID);
        }
        approximate(slot, m, n);
        return fraction.block(fraction.agreement(now.series[slot], now.prime));
    }

    public int evaluate(int slot, int m, int n, int x) {
        if (!isApproximant(slot, m, n) || !isElement(x)) {
            return fail(INVALID);
        }
        approximate(slot, m, n);
        int below = fraction.bottom.valueAt(x, now.prime);
        if (below == 0) {
            return NONE;
        }
        return Field.over(fraction.top.valueAt(x, now.prime), below, now.prime);
    }

    public int normalCount(int slot, int s) {
        if (!isSlot(slot) || !isTerm(s)) {
            return fail(INVALID);
        }
        int count = 0;
        for (int m = 0; m <= s; m++) {
            approximate(slot, m, s - m);
            if (fraction.block(fraction.agreement(now.series[slot], now.prime)) == 0) {
                count++;
            }
        }
        return count;
    }

    // ---- determinants, quotient-difference scheme, quotients, recurrences

    public int determinant(int slot, int m, int n) {
        if (!isSlot(slot) || m < 0 || m > TERMS || n < 0 || n > TERMS - m) {
            return fail(INVALID);
        }
        return toeplitz.valueOf(now.series[slot], m, n, now.prime);
    }

    public int quotientDifference(int slot, int kind, int j, int k) {
        if (!isSlot(slot) || !isSchemePlace(kind, j, k)) {
            return fail(INVALID);
        }
        return scheme.number(now.series[slot], kind, j, k, now.prime);
    }

    public int quotientCount(int slot, int s) {
        if (!isSlot(slot) || !isTerm(s)) {
            return fail(INVALID);
        }
        euclid.startWithSeries(now.series[slot], s, now.prime);
        int count = 0;
        while (count < ROW && euclid.latest.degree >= 0) {
            euclid.divide();
            count++;
        }
        return count;
    }

    public int quotient(int slot, int s, int i, int index) {
        if (!isSlot(slot) || !isTerm(s) || i < 0 || index < 0 || index >= ROW) {
            return fail(INVALID);
        }
        if (i >= ROW) {
            return NONE;
        }
        euclid.startWithSeries(now.series[slot], s, now.prime);
        for (int step = 0; step <= i; step++) {
            if (euclid.latest.degree < 0) {
                return NONE;
            }
            euclid.divide();
        }
        return euclid.quotient.row[index];
    }

    public int complexity(int slot, int length) {
        if (!isSlot(slot) || length < 1 || length > TERMS) {
            return fail(INVALID);
        }
        register.fit(now.series[slot], length, now.prime);
        return register.size;
    }

    public int recurrence(int slot, int length, int i) {
        if (!isSlot(slot) || length < 1 || length > TERMS || i < 1) {
            return fail(INVALID);
        }
        register.fit(now.series[slot], length, now.prime);
        if (2 * register.size > length || i > register.size || i >= ROW) {
            return NONE;
        }
        return Field.negative(register.connection[i], now.prime);
    }

    // ---- rational interpolation

    public int addPoint(int x, int y) {
        if (!isElement(x) || !isElement(y)) {
            return fail(INVALID);
        }
        if (now.hasPointAt(x)) {
            return fail(REJECTED);
        }
        if (now.points >= POINTS) {
            return fail(FULL);
        }
        history.keep(now);
        now.putPoint(x, y);
        return now.points;
    }

    public int clearPoints() {
        history.keep(now);
        int removed = now.points;
        now.points = 0;
        return removed;
    }

    public int interpolant(int m, int part, int index) {
        if (!isInterpolant(m) || part < 0 || part > 1 || index < 0 || index >= POINTS) {
            return fail(INVALID);
        }
        interpolate(m);
        return part == 0 ? fraction.top.row[index] : fraction.bottom.row[index];
    }

    public int unattainable(int m) {
        if (!isInterpolant(m)) {
            return fail(INVALID);
        }
        interpolate(m);
        return missedPoints();
    }

    // ---- undo and errors

    public int undo() {
        if (history.count == 0) {
            return fail(REJECTED);
        }
        history.giveBack(now);
        return history.count;
    }

    public int errorCount(int kind) {
        if (kind < 0 || kind >= ERROR_KINDS) {
            return fail(INVALID);
        }
        return errors[kind];
    }

    public long digest() {
        long h = DIGEST_START;
        for (int kind = 0; kind < ERROR_KINDS; kind++) {
            h = mix(h, errors[kind]);
        }
        h = mix(h, text.length);
        h = mix(h, history.count);
        h = mix(h, now.prime);
        for (int slot = 0; slot < SLOTS; slot++) {
            h = mixSeries(h, slot);
        }
        return mixPoints(h);
    }

    // ---- parts of the digest

    private static long mix(long h, int value) {
        return 31 * h + value;
    }

    private long mixSeries(long start, int slot) {
        long h = start;
        int[] series = now.series[slot];
        for (int index = 0; index < TERMS; index++) {
            h = mix(h, series[index]);
        }
        // The approximants that normalCount asks for are these same ones: counted on the way.
        int normal = 0;
        for (int m = 0; m <= DIGEST_SUM; m++) {
            approximate(slot, m, DIGEST_SUM - m);
            int agreement = fraction.agreement(series, now.prime);
            h = mix(h, agreement);
            h = mix(h, fraction.top.degree);
            if (fraction.block(agreement) == 0) {
                normal++;
            }
        }
        register.fit(series, TERMS, now.prime);
        h = mix(h, register.size);
        return mix(h, normal);
    }

    private long mixPoints(long start) {
        long h = mix(start, now.points);
        for (int i = 0; i < now.points && i < POINTS; i++) {
            h = mix(h, now.xs[i]);
            h = mix(h, now.ys[i]);
        }
        for (int m = 0; m < now.points && m < POINTS; m++) {
            interpolate(m);
            h = mix(h, missedPoints());
        }
        return h;
    }

    // ---- arguments and errors

    private int fail(int code) {
        int kind = INVALID - code;
        if (kind >= 0 && kind < ERROR_KINDS) {
            errors[kind]++;
        }
        return code;
    }

    private static boolean isSlot(int slot) {
        return slot >= 0 && slot < SLOTS;
    }

    private static boolean isTerm(int index) {
        return index >= 0 && index < TERMS;
    }

    private boolean isElement(int value) {
        return value >= 0 && value < now.prime;
    }

    /** The sum m + n is never formed before both are known to be small: it could wrap around. */
    private static boolean isApproximant(int slot, int m, int n) {
        return isSlot(slot) && isTerm(m) && n >= 0 && n < TERMS - m;
    }

    private static boolean isSchemePlace(int kind, int j, int k) {
        if (kind < 0 || kind > 1 || j < 1 || j > TERMS / 2 || k < 0) {
            return false;
        }
        return k <= TERMS - 2 * j - kind;
    }

    private boolean isInterpolant(int m) {
        return m >= 0 && m < now.points;
    }

    private static boolean isPrime(int p) {
        if (p < 2 || p > LARGEST_PRIME) {
            return false;
        }
        for (int d = 2; d * d <= p; d++) {
            if (p % d == 0) {
                return false;
            }
        }
        return true;
    }

    // ---- common work of several methods

    /** Puts the result in the place of a series; the result may have come from that series. */
    private int store(int to) {
        history.keep(now);
        System.arraycopy(result, 0, now.series[to], 0, TERMS);
        return Series.countOfNonZero(result);
    }

    private void composeIntoResult(int[] outer, int[] inner) {
        Arrays.fill(result, 0);
        for (int k = TERMS - 1; k >= 0; k--) {
            Series.product(result, inner, spare, now.prime);
            System.arraycopy(spare, 0, result, 0, TERMS);
            result[0] = Field.reduce(result[0] + outer[k], now.prime);
        }
    }

    private void approximate(int slot, int m, int n) {
        euclid.startWithSeries(now.series[slot], m + n, now.prime);
        euclid.runDownTo(m);
        fraction.take(euclid.latest, euclid.cofactor);
        // A common factor divides x^(m + n + 1), so that 0 is the only root to cancel.
        fraction.cancelRoot(0, now.prime);
        fraction.scale(now.prime);
    }

    private void interpolate(int m) {
        euclid.startWithPoints(now);
        euclid.runDownTo(m);
        fraction.take(euclid.latest, euclid.cofactor);
        // A common factor divides the product of all x - xi, so that no other roots are left.
        for (int i = 0; i < now.points && i < POINTS; i++) {
            fraction.cancelRoot(now.xs[i], now.prime);
        }
        fraction.scale(now.prime);
    }

    private int missedPoints() {
        int count = 0;
        for (int i = 0; i < now.points && i < POINTS; i++) {
            if (!fraction.passes(now.xs[i], now.ys[i], now.prime)) {
                count++;
            }
        }
        return count;
    }

    /** Arithmetic modulo p; every element is 0 to p - 1. */
    private static final class Field {
        /** The only remainder by p in the class: for values of 0 or more. */
        static int reduce(int value, int p) {
            return p > 0 ? value % p : 0;
        }

        static int negative(int a, int p) {
            return a == 0 ? 0 : p - a;
        }

        static int times(int a, int b, int p) {
            return reduce(a * b, p);
        }

        /** a^(p - 2), which is the inverse of a by Fermat if a is not 0. */
        static int inverse(int a, int p) {
            int power = 1;
            int square = a;
            for (int rest = p - 2; rest > 0; rest >>= 1) {
                if ((rest & 1) == 1) {
                    power = reduce(power * square, p);
                }
                square = reduce(square * square, p);
            }
            return power;
        }

        static int over(int a, int b, int p) {
            return times(a, inverse(b, p), p);
        }
    }

    /** Operations on rows of TERMS coefficients; the target is never one of the sources. */
    private static final class Series {
        static void sum(int[] a, int[] b, int[] target, int p) {
            for (int k = 0; k < TERMS; k++) {
                target[k] = Field.reduce(a[k] + b[k], p);
            }
        }

        static void product(int[] a, int[] b, int[] target, int p) {
            for (int k = 0; k < TERMS; k++) {
                int sum = 0;
                for (int i = 0; i <= k; i++) {
                    sum += a[i] * b[k - i];
                }
                target[k] = Field.reduce(sum, p);
            }
        }

        /** For a[0] that is not 0. */
        static void reciprocal(int[] a, int[] target, int p) {
            int first = Field.inverse(a[0], p);
            target[0] = first;
            for (int k = 1; k < TERMS; k++) {
                int sum = 0;
                for (int i = 1; i <= k; i++) {
                    sum += a[i] * target[k - i];
                }
                target[k] = Field.negative(Field.times(Field.reduce(sum, p), first, p), p);
            }
        }

        static void slope(int[] a, int[] target, int p) {
            for (int k = 1; k < TERMS; k++) {
                target[k - 1] = Field.times(k, a[k], p);
            }
            target[TERMS - 1] = 0;
        }

        static int countOfNonZero(int[] a) {
            int count = 0;
            for (int k = 0; k < TERMS; k++) {
                if (a[k] != 0) {
                    count++;
                }
            }
            return count;
        }
    }

    /** What undo brings back: the prime, the series and the points. */
    private static final class State {
        private int prime = FIRST_PRIME;
        private final int[][] series = new int[SLOTS][TERMS];
        private int points;
        private final int[] xs = new int[POINTS];
        private final int[] ys = new int[POINTS];

        void copyFrom(State other) {
            prime = other.prime;
            for (int slot = 0; slot < SLOTS; slot++) {
                System.arraycopy(other.series[slot], 0, series[slot], 0, TERMS);
            }
            points = other.points;
            System.arraycopy(other.xs, 0, xs, 0, POINTS);
            System.arraycopy(other.ys, 0, ys, 0, POINTS);
        }

        void restart(int p) {
            prime = p;
            for (int slot = 0; slot < SLOTS; slot++) {
                Arrays.fill(series[slot], 0);
            }
            points = 0;
        }

        boolean hasPointAt(int x) {
            for (int i = 0; i < points && i < POINTS; i++) {
                if (xs[i] == x) {
                    return true;
                }
            }
            return false;
        }

        void putPoint(int x, int y) {
            if (points < POINTS) {
                xs[points] = x;
                ys[points] = y;
                points++;
            }
        }
    }

    /** The undo stack: a ring in which a new state takes the place of the oldest. */
    private static final class History {
        private final State[] states = new State[STATES];
        private int next;
        private int count;

        History() {
            for (int i = 0; i < STATES; i++) {
                states[i] = new State();
            }
        }

        void keep(State state) {
            states[next & (STATES - 1)].copyFrom(state);
            next = (next + 1) & (STATES - 1);
            if (count < STATES) {
                count++;
            }
        }

        void giveBack(State target) {
            if (count > 0) {
                next = (next - 1) & (STATES - 1);
                target.copyFrom(states[next]);
                count--;
            }
        }
    }

    /** The text and its reader, which leaves a fraction, or the position of a syntax error. */
    private static final class FractionText {
        private static final int END = -1;
        private static final int NUMBER_DIGITS = 4;

        private final int[] bytes = new int[TEXT_BYTES];
        private int length;
        private int position;
        private int p;
        private final int[] top = new int[TERMS];
        private final int[] bottom = new int[TERMS];

        void put(int value) {
            if (length < TEXT_BYTES) {
                bytes[length] = value;
                length++;
            }
        }

        /** Whether the text is correct; if not, the position is that of the error. */
        boolean readFraction(int prime) {
            p = prime;
            position = 0;
            Arrays.fill(top, 0);
            Arrays.fill(bottom, 0);
            if (!readPolynomial(top)) {
                return false;
            }
            if (!took('/')) {
                bottom[0] = 1;
            } else if (!readPolynomial(bottom)) {
                return false;
            }
            return peek() == END;
        }

        private boolean readPolynomial(int[] row) {
            boolean minus = took('-');
            // Each term takes a byte at least, so that there are no more terms than bytes.
            for (int term = 0; term < TEXT_BYTES; term++) {
                if (!readTerm(row, minus)) {
                    return false;
                }
                if (took('+')) {
                    minus = false;
                } else if (took('-')) {
                    minus = true;
                } else {
                    return true;
                }
            }
            return false;
        }

        private boolean readTerm(int[] row, boolean minus) {
            int number = 1;
            int exponent = 0;
            boolean numbered = isDigit(peek());
            if (numbered) {
                number = readNumber();
                if (number < 0) {
                    return false;
                }
            }
            if (took('x')) {
                exponent = took('^') ? readExponent() : 1;
            } else if (!numbered) {
                return false;
            }
            if (exponent < 0 || exponent >= TERMS) {
                return false;
            }
            int value = Field.reduce(number, p);
            row[exponent] = Field.reduce(row[exponent] + (minus ? p - value : value), p);
            return true;
        }

        /** NONE if there is a digit too many, at which the position then stands. */
        private int readNumber() {
            int number = 0;
            for (int i = 0; i < NUMBER_DIGITS && isDigit(here()); i++) {
                number = 10 * number + here() - '0';
                position++;
            }
            return isDigit(here()) ? NONE : number;
        }

        /** NONE if there is no exponent, and the position is that of the error. */
        private int readExponent() {
            if (!isDigit(peek())) {
                return NONE;
            }
            int first = position;
            int exponent = here() - '0';
            position++;
            if (isDigit(here())) {
                exponent = 10 * exponent + here() - '0';
                position++;
            }
            if (isDigit(here())) {
                return NONE;
            }
            if (exponent >= TERMS) {
                position = first;
                return NONE;
            }
            return exponent;
        }

        private boolean took(int wanted) {
            if (peek() != wanted) {
                return false;
            }
            position++;
            return true;
        }

        private int peek() {
            while (position < length && here() == ' ') {
                position++;
            }
            return here();
        }

        private int here() {
            return position >= 0 && position < length && position < TEXT_BYTES ? bytes[position] : END;
        }

        private static boolean isDigit(int value) {
            return value >= '0' && value <= '9';
        }
    }

    /** A polynomial up to x^16; the degree is NONE if it is 0. */
    private static final class Polynomial {
        private final int[] row = new int[ROW];
        private int degree = NONE;

        void becomeZero() {
            Arrays.fill(row, 0);
            degree = NONE;
        }

        void becomePower(int exponent) {
            becomeZero();
            if (exponent >= 0 && exponent < ROW) {
                row[exponent] = 1;
                degree = exponent;
            }
        }

        void becomeStart(int[] series, int last) {
            becomeZero();
            for (int k = 0; k <= last && k < TERMS; k++) {
                row[k] = series[k];
            }
            measure();
        }

        void copyFrom(Polynomial other) {
            System.arraycopy(other.row, 0, row, 0, ROW);
            degree = other.degree;
        }

        void measure() {
            degree = ROW - 1;
            while (degree >= 0 && row[degree] == 0) {
                degree--;
            }
        }

        int valueAt(int x, int p) {
            int value = 0;
            for (int k = degree; k >= 0; k--) {
                value = Field.reduce(value * x + row[k], p);
            }
            return value;
        }

        /** Adds factor * x^shift * other; the degree is to be measured afterwards. */
        void gather(Polynomial other, int factor, int shift, int p) {
            if (factor == 0) {
                return;
            }
            for (int k = 0; k <= other.degree && k + shift < ROW; k++) {
                row[k + shift] = Field.reduce(row[k + shift] + factor * other.row[k], p);
            }
        }

        void scaleBy(int factor, int p) {
            for (int k = 0; k < ROW; k++) {
                row[k] = Field.times(row[k], factor, p);
            }
        }

        /** Becomes x - root times itself; what would go beyond x^16 is lost. */
        void multiplyByRoot(int root, int p) {
            int minus = Field.negative(root, p);
            for (int k = ROW - 1; k >= 0; k--) {
                int below = k > 0 ? row[k - 1] : 0;
                row[k] = Field.reduce(below + minus * row[k], p);
            }
            measure();
        }

        /** Becomes the quotient by x - root. */
        void divideByRoot(int root, int p) {
            int carry = 0;
            for (int k = ROW - 1; k >= 0; k--) {
                int old = row[k];
                row[k] = carry;
                carry = Field.reduce(old + root * carry, p);
            }
            measure();
        }

        int lowest() {
            for (int k = 0; k < ROW; k++) {
                if (row[k] != 0) {
                    return row[k];
                }
            }
            return 0;
        }
    }

    /**
     * Euclid's algorithm with cofactors: latest is cofactor times the second polynomial, but for
     * a multiple of the first.
     */
    private static final class Euclid {
        private Polynomial before = new Polynomial();
        private Polynomial latest = new Polynomial();
        private Polynomial cofactorBefore = new Polynomial();
        private Polynomial cofactor = new Polynomial();
        private final Polynomial quotient = new Polynomial();
        private int p = FIRST_PRIME;

        void startWithSeries(int[] series, int s, int prime) {
            p = prime;
            before.becomePower(s + 1);
            latest.becomeStart(series, s);
            startCofactors();
        }

        /** The product of all x - xi, and the polynomial through all points by Newton's way. */
        void startWithPoints(State state) {
            p = state.prime;
            before.becomePower(0);
            latest.becomeZero();
            for (int i = 0; i < state.points && i < POINTS; i++) {
                int x = state.xs[i];
                int gap = Field.reduce(state.ys[i] + p - latest.valueAt(x, p), p);
                int factor = Field.over(gap, before.valueAt(x, p), p);
                latest.gather(before, factor, 0, p);
                latest.measure();
                before.multiplyByRoot(x, p);
            }
            startCofactors();
        }

        private void startCofactors() {
            cofactorBefore.becomeZero();
            cofactor.becomePower(0);
            quotient.becomeZero();
        }

        void runDownTo(int degree) {
            for (int i = 0; i < ROW && latest.degree > degree; i++) {
                divide();
                followWithCofactors();
            }
        }

        /** One division, after which latest is the remainder; none if latest is 0. */
        void divide() {
            if (latest.degree < 0) {
                return;
            }
            quotient.becomeZero();
            int inverse = Field.inverse(latest.row[latest.degree], p);
            for (int shift = before.degree - latest.degree; shift >= 0; shift--) {
                int factor = Field.times(before.row[shift + latest.degree], inverse, p);
                quotient.row[shift] = factor;
                before.gather(latest, Field.negative(factor, p), shift, p);
            }
            quotient.measure();
            before.measure();
            Polynomial remainder = before;
            before = latest;
            latest = remainder;
        }

        private void followWithCofactors() {
            for (int shift = 0; shift <= quotient.degree; shift++) {
                int factor = Field.negative(quotient.row[shift], p);
                cofactorBefore.gather(cofactor, factor, shift, p);
            }
            cofactorBefore.measure();
            Polynomial newest = cofactorBefore;
            cofactorBefore = cofactor;
            cofactor = newest;
        }
    }

    /** A fraction of two polynomials. */
    private static final class Fraction {
        private final Polynomial top = new Polynomial();
        private final Polynomial bottom = new Polynomial();

        void take(Polynomial numerator, Polynomial denominator) {
            top.copyFrom(numerator);
            if (top.degree < 0) {
                bottom.becomePower(0);
            } else {
                bottom.copyFrom(denominator);
            }
        }

        void cancelRoot(int root, int p) {
            for (int i = 0; i < ROW; i++) {
                if (top.valueAt(root, p) != 0 || bottom.valueAt(root, p) != 0) {
                    return;
                }
                top.divideByRoot(root, p);
                bottom.divideByRoot(root, p);
            }
        }

        /** Makes the lowest coefficient of the denominator that is not 0 to be 1. */
        void scale(int p) {
            int factor = Field.inverse(bottom.lowest(), p);
            top.scaleBy(factor, p);
            bottom.scaleBy(factor, p);
        }

        /** How many coefficients agree: those before the first gap in bottom * series - top. */
        int agreement(int[] series, int p) {
            for (int k = 0; k < TERMS; k++) {
                int sum = 0;
                for (int i = 0; i <= k && i <= bottom.degree; i++) {
                    sum += bottom.row[i] * series[k - i];
                }
                if (Field.reduce(sum, p) != top.row[k]) {
                    return k;
                }
            }
            return TERMS;
        }

        int block(int agreement) {
            return top.degree < 0 ? NONE : agreement - top.degree - bottom.degree - 1;
        }

        boolean passes(int x, int y, int p) {
            int below = bottom.valueAt(x, p);
            return below != 0 && Field.times(below, y, p) == top.valueAt(x, p);
        }
    }

    /** Toeplitz determinants by elimination. */
    private static final class Toeplitz {
        private final int[][] cells = new int[TERMS][TERMS];

        /** For m + n up to TERMS. */
        int valueOf(int[] series, int m, int n, int p) {
            fill(series, m, n);
            int value = 1;
            for (int c = 0; c < n && c < TERMS; c++) {
                int pivot = pivotRow(c, n);
                if (pivot < 0) {
                    return 0;
                }
                if (pivot != c) {
                    swapRows(pivot, c);
                    value = Field.negative(value, p);
                }
                value = Field.times(value, cells[c][c], p);
                clearBelow(c, n, p);
            }
            return value;
        }

        private void fill(int[] series, int m, int n) {
            for (int i = 0; i < n && i < TERMS; i++) {
                for (int j = 0; j < n && j < TERMS; j++) {
                    int index = m + i - j;
                    cells[i][j] = isTerm(index) ? series[index] : 0;
                }
            }
        }

        private int pivotRow(int c, int n) {
            for (int i = c; i < n && i < TERMS; i++) {
                if (cells[i][c] != 0) {
                    return i;
                }
            }
            return NONE;
        }

        private void swapRows(int a, int b) {
            for (int j = 0; j < TERMS; j++) {
                int cell = cells[a][j];
                cells[a][j] = cells[b][j];
                cells[b][j] = cell;
            }
        }

        private void clearBelow(int c, int n, int p) {
            int inverse = Field.inverse(cells[c][c], p);
            for (int i = c + 1; i < n && i < TERMS; i++) {
                int factor = p - Field.times(cells[i][c], inverse, p);
                for (int j = c; j < n && j < TERMS; j++) {
                    cells[i][j] = Field.reduce(cells[i][j] + factor * cells[c][j], p);
                }
            }
        }
    }

    /** The quotient-difference scheme, a column at a time; an undefined number is NONE. */
    private static final class Scheme {
        private final int[] q = new int[TERMS];
        private final int[] e = new int[TERMS];

        int number(int[] series, int kind, int j, int k, int p) {
            firstColumns(series, p);
            for (int column = 1; column < j && column < TERMS; column++) {
                nextE(p);
                nextQ(p);
            }
            if (kind == 0) {
                return q[k];
            }
            nextE(p);
            return e[k];
        }

        private void firstColumns(int[] series, int p) {
            Arrays.fill(e, 0);
            for (int k = 0; k + 1 < TERMS; k++) {
                q[k] = ratio(series[k + 1], series[k], p);
            }
            q[TERMS - 1] = NONE;
        }

        private void nextE(int p) {
            for (int k = 0; k + 1 < TERMS; k++) {
                boolean defined = q[k + 1] >= 0 && q[k] >= 0 && e[k + 1] >= 0;
                e[k] = defined ? Field.reduce(q[k + 1] + p - q[k] + e[k + 1], p) : NONE;
            }
            e[TERMS - 1] = NONE;
        }

        private void nextQ(int p) {
            for (int k = 0; k + 1 < TERMS; k++) {
                boolean defined = q[k + 1] >= 0 && e[k + 1] >= 0;
                q[k] = defined ? ratio(Field.times(q[k + 1], e[k + 1], p), e[k], p) : NONE;
            }
            q[TERMS - 1] = NONE;
        }

        private static int ratio(int a, int b, int p) {
            return b > 0 ? Field.over(a, b, p) : NONE;
        }
    }

    /** The shortest linear recurrence by the algorithm of Berlekamp and Massey. */
    private static final class Register {
        private int[] connection = new int[ROW];
        private int[] older = new int[ROW];
        private int[] spareRow = new int[ROW];
        /** The linear complexity. */
        private int size;

        void fit(int[] series, int length, int p) {
            Arrays.fill(connection, 0);
            Arrays.fill(older, 0);
            connection[0] = 1;
            older[0] = 1;
            size = 0;
            int olderGap = 1;
            int shift = 1;
            for (int k = 0; k < length && k < TERMS; k++) {
                int gap = gapAt(series, k, p);
                if (gap == 0) {
                    shift++;
                    continue;
                }
                correct(Field.over(gap, olderGap, p), shift, p);
                if (2 * size <= k) {
                    size = k + 1 - size;
                    keepOlder();
                    olderGap = gap;
                    shift = 1;
                } else {
                    shift++;
                }
            }
        }

        private int gapAt(int[] series, int k, int p) {
            int sum = 0;
            for (int i = 0; i <= size && i <= k; i++) {
                sum += connection[i] * series[k - i];
            }
            return Field.reduce(sum, p);
        }

        /** Subtracts the older row from the connection; the row before that stays in spareRow. */
        private void correct(int factor, int shift, int p) {
            System.arraycopy(connection, 0, spareRow, 0, ROW);
            for (int i = 0; i + shift < ROW; i++) {
                int sum = connection[i + shift] + (p - factor) * older[i];
                connection[i + shift] = Field.reduce(sum, p);
            }
        }

        private void keepOlder() {
            int[] kept = older;
            older = spareRow;
            spareRow = kept;
        }
    }
}
