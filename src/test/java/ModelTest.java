import java.util.Random;

/** Runs of calls by chance, always the same ones, on the class and on the plain model. */
public final class ModelTest {
    private static final int RUNS = 750;
    /** A last text may follow, and no more than 512 calls are promised. */
    private static final int CALLS = 400;
    private static final int[] PRIMES = {2, 2, 3, 3, 5, 7, 11, 13, 101, 241, 251};
    private static final int[] ODD_ARGUMENTS = {
        -1, -2, Integer.MIN_VALUE, Integer.MAX_VALUE, Integer.MAX_VALUE - 1, 1 << 30, 16, 17, 252
    };
    private static final String SIGNS = "0123456789xxxx^^^++--/    1205 a";

    private final Checks checks = new Checks();
    private final Random random = new Random(20261118);
    private PadeWorkbench real;
    private PlainModel model;

    public static void main(String[] args) {
        ModelTest test = new ModelTest();
        for (int run = 0; run < RUNS; run++) {
            test.run();
        }
        test.checks.end();
    }

    private void run() {
        real = new PadeWorkbench();
        model = new PlainModel();
        int calls = 0;
        while (calls < CALLS) {
            calls += random.nextInt(12) == 0 ? writeText() : call();
        }
        same("digest()", real.digest(), model.digest());
    }

    private void same(String call, long got, long want) {
        checks.due(call, got, want);
    }

    /** Mostly 0 to high, at times something far outside. */
    private int pick(int high) {
        if (random.nextInt(60) == 0) {
            return ODD_ARGUMENTS[random.nextInt(ODD_ARGUMENTS.length)];
        }
        if (random.nextInt(40) == 0) {
            return high + 1;
        }
        return high <= 0 ? 0 : random.nextInt(high + 1);
    }

    private int element() {
        return random.nextInt(3) == 0 ? pick(0) : pick(model.prime() - 1);
    }

    /** A text in place of the old one, and then it is read. */
    private int writeText() {
        String text = random.nextInt(5) == 0 ? noise() : fraction();
        same("clearText()", real.clearText(), model.clearText());
        for (char c : text.toCharArray()) {
            same("append(" + (int) c + ")", real.append(c), model.append(c));
        }
        int slot = pick(3);
        same("parse(" + slot + ") of [" + text + "]", real.parse(slot), model.parse(slot));
        return text.length() + 2;
    }

    private String noise() {
        StringBuilder text = new StringBuilder();
        for (int i = random.nextInt(12); i > 0; i--) {
            text.append(SIGNS.charAt(random.nextInt(SIGNS.length())));
        }
        return text.toString();
    }

    private String fraction() {
        StringBuilder text = new StringBuilder(polynomial(1 + random.nextInt(4)));
        if (random.nextInt(4) > 0) {
            text.append(space()).append('/').append(random.nextInt(9) > 0 ? "1+" : "");
            text.append(polynomial(1 + random.nextInt(3)));
        }
        if (random.nextInt(10) == 0) {
            int at = random.nextInt(text.length());
            text.setCharAt(at, SIGNS.charAt(random.nextInt(SIGNS.length())));
        }
        return text.toString();
    }

    private String polynomial(int terms) {
        StringBuilder text = new StringBuilder(space());
        for (int i = 0; i < terms; i++) {
            boolean minus = random.nextBoolean();
            text.append(i > 0 ? minus ? "-" : "+" : "").append(space());
            boolean numbered = random.nextBoolean();
            text.append(numbered ? "" + random.nextInt(random.nextInt(30) == 0 ? 30000 : 300) : "");
            if (!numbered || random.nextBoolean()) {
                text.append(space()).append('x').append(space());
                int exponent = random.nextInt(random.nextInt(20) == 0 ? 120 : 8);
                text.append(random.nextBoolean() ? "^" + space() + exponent : "");
            }
            text.append(space());
        }
        return text.toString();
    }

    private String space() {
        return random.nextInt(25) == 0 ? " " : "";
    }

    private int call() {
        switch (random.nextInt(4)) {
            case 0 -> change();
            case 1 -> askPade();
            case 2 -> askOthers();
            default -> askPoints();
        }
        return 1;
    }

    private void change() {
        int a = pick(3);
        int b = pick(3);
        int to = pick(3);
        switch (random.nextInt(20)) {
            case 0 -> {
                if (random.nextInt(3) == 0) {
                    int prime = random.nextInt(6) == 0 ? pick(260) : PRIMES[random.nextInt(PRIMES.length)];
                    same("setPrime(" + prime + ")", real.setPrime(prime), model.setPrime(prime));
                }
            }
            case 1, 2 -> same("add", real.add(a, b, to), model.add(a, b, to));
            case 3, 4 -> same("multiply", real.multiply(a, b, to), model.multiply(a, b, to));
            case 5, 6 -> same("invert", real.invert(a, to), model.invert(a, to));
            case 7, 8 -> same("substitute", real.substitute(a, b, to), model.substitute(a, b, to));
            case 9, 10 -> same("derivative", real.derivative(a, to), model.derivative(a, to));
            case 11, 12 -> {
                int value = pick(127);
                same("append", real.append(value), model.append(value));
            }
            case 13 -> same("undo()", real.undo(), model.undo());
            default -> {
                int index = pick(15);
                int value = element();
                same("set", real.set(a, index, value), model.set(a, index, value));
            }
        }
    }

    private void askPade() {
        int slot = pick(3);
        int m = pick(15);
        int n = pick(15 - m);
        int index = random.nextBoolean() ? pick(15) : pick(2);
        int x = element();
        String where = "(" + slot + ", " + m + ", " + n + ") ";
        switch (random.nextInt(9)) {
            case 0 -> same("numeratorDegree" + where,
                    real.numeratorDegree(slot, m, n), model.numeratorDegree(slot, m, n));
            case 1 -> same("denominatorDegree" + where,
                    real.denominatorDegree(slot, m, n), model.denominatorDegree(slot, m, n));
            case 2 -> same("numerator" + where + index,
                    real.numerator(slot, m, n, index), model.numerator(slot, m, n, index));
            case 3 -> same("denominator" + where + index,
                    real.denominator(slot, m, n, index), model.denominator(slot, m, n, index));
            case 4 -> same("order" + where, real.order(slot, m, n), model.order(slot, m, n));
            case 5 -> same("blockSize" + where, real.blockSize(slot, m, n), model.blockSize(slot, m, n));
            case 6 -> same("evaluate" + where + x,
                    real.evaluate(slot, m, n, x), model.evaluate(slot, m, n, x));
            case 7 -> same("normalCount(" + slot + ", " + m + ")",
                    real.normalCount(slot, m), model.normalCount(slot, m));
            default -> same("coefficient(" + slot + ", " + index + ")",
                    real.coefficient(slot, index), model.coefficient(slot, index));
        }
    }

    private void askOthers() {
        int slot = pick(3);
        int a = pick(16);
        int b = pick(16 - a);
        int i = random.nextBoolean() ? pick(3) : pick(16);
        switch (random.nextInt(6)) {
            case 0 -> same("determinant(" + slot + ", " + a + ", " + b + ")",
                    real.determinant(slot, a, b), model.determinant(slot, a, b));
            case 1 -> askScheme(slot);
            case 2 -> same("quotientCount(" + slot + ", " + a + ")",
                    real.quotientCount(slot, a), model.quotientCount(slot, a));
            case 3 -> same("quotient(" + slot + ", " + a + ", " + i + ", " + b + ")",
                    real.quotient(slot, a, i, b), model.quotient(slot, a, i, b));
            case 4 -> same("complexity(" + slot + ", " + a + ")",
                    real.complexity(slot, a), model.complexity(slot, a));
            default -> same("recurrence(" + slot + ", " + a + ", " + i + ")",
                    real.recurrence(slot, a, i), model.recurrence(slot, a, i));
        }
    }

    private void askScheme(int slot) {
        int kind = pick(1);
        int j = random.nextInt(3) == 0 ? pick(8) : 1 + random.nextInt(3);
        int k = pick(15 - 2 * Math.min(Math.max(j, 0), 8));
        same("quotientDifference(" + slot + ", " + kind + ", " + j + ", " + k + ")",
                real.quotientDifference(slot, kind, j, k), model.quotientDifference(slot, kind, j, k));
    }

    private void askPoints() {
        int x = element();
        int y = random.nextInt(3) == 0 ? pick(1) : element();
        int m = pick(model.pointCount() - 1);
        int part = pick(1);
        int index = pick(9);
        int kind = pick(2);
        switch (random.nextInt(14)) {
            case 0, 1, 2, 3, 4 -> same("addPoint(" + x + ", " + y + ")",
                    real.addPoint(x, y), model.addPoint(x, y));
            case 5 -> {
                if (random.nextInt(3) == 0) {
                    same("clearPoints()", real.clearPoints(), model.clearPoints());
                }
            }
            case 6, 7, 8, 9 -> same("interpolant(" + m + ", " + part + ", " + index + ")",
                    real.interpolant(m, part, index), model.interpolant(m, part, index));
            case 10, 11 -> same("unattainable(" + m + ")", real.unattainable(m), model.unattainable(m));
            case 12 -> same("errorCount(" + kind + ")", real.errorCount(kind), model.errorCount(kind));
            default -> same("digest()", real.digest(), model.digest());
        }
    }
}
