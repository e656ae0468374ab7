/** Promises 21 to 26: determinants, quotient-difference scheme, quotients, recurrences. */
public final class SchemesTest {
    private static final int NONE = -1;
    private static final int INVALID = -2;
    private static final int[] OUTSIDE = {-1, 4, Integer.MIN_VALUE, Integer.MAX_VALUE};

    private final Checks checks = new Checks();

    public static void main(String[] args) {
        SchemesTest test = new SchemesTest();
        test.wrongSlots();
        test.determinantArguments();
        test.determinants();
        test.schemeArguments();
        test.catalanScheme();
        test.undefinedNumbers();
        test.quotientArguments();
        test.quotients();
        test.recurrenceArguments();
        test.complexities();
        test.recurrences();
        test.checks.end();
    }

    private void wrongSlots() {
        PadeWorkbench w = new PadeWorkbench();
        for (int bad : OUTSIDE) {
            checks.due("determinant in " + bad, w.determinant(bad, 0, 0), INVALID);
            checks.due("q in " + bad, w.quotientDifference(bad, 0, 1, 0), INVALID);
            checks.due("e in " + bad, w.quotientDifference(bad, 1, 1, 0), INVALID);
            checks.due("quotientCount in " + bad, w.quotientCount(bad, 0), INVALID);
            checks.due("quotient in " + bad, w.quotient(bad, 0, 0, 0), INVALID);
            checks.due("complexity in " + bad, w.complexity(bad, 1), INVALID);
            checks.due("recurrence in " + bad, w.recurrence(bad, 1, 1), INVALID);
        }
        checks.due("errors", w.errorCount(0), 28);
        checks.due("asking saves nothing", w.undo(), -3);
    }

    private void determinantArguments() {
        PadeWorkbench w = new PadeWorkbench();
        int[][] bad = {
            {-1, 0}, {0, -1}, {17, 0}, {0, 17}, {16, 1}, {1, 16}, {8, 9}, {18, -2}, {-1, 17},
            {Integer.MAX_VALUE, Integer.MAX_VALUE}, {Integer.MAX_VALUE, 1},
            {1, Integer.MAX_VALUE}, {Integer.MIN_VALUE, Integer.MIN_VALUE}, {0, Integer.MIN_VALUE}
        };
        for (int[] pair : bad) {
            checks.due("D(" + pair[0] + ", " + pair[1] + ")",
                    w.determinant(0, pair[0], pair[1]), INVALID);
        }
        checks.due("errors", w.errorCount(0), bad.length);
        for (int m = 0; m <= 16; m++) {
            checks.due("D(m, 0)", w.determinant(0, m, 0), 1);
        }
    }

    private void determinants() {
        PadeWorkbench w = Checks.with(101, "2+3x+5x^2+7x^3+11x^4+9x^15");
        checks.due("D(3, 1)", w.determinant(0, 3, 1), 7);
        checks.due("D(15, 1)", w.determinant(0, 15, 1), 9);
        checks.due("D(0, 2)", w.determinant(0, 0, 2), 4);
        checks.due("D(1, 2)", w.determinant(0, 1, 2), 100);
        checks.due("D(2, 2)", w.determinant(0, 2, 2), 4);
        checks.due("D(3, 2)", w.determinant(0, 3, 2), 95);
        // |5 3 2; 7 5 3; 11 7 5| = 5 (25 - 21) - 3 (35 - 33) + 2 (49 - 55)
        checks.due("D(2, 3)", w.determinant(0, 2, 3), 2);
        // |3 2 0; 5 3 2; 7 5 3| = 3 (9 - 10) - 2 (15 - 14)
        checks.due("D(1, 3)", w.determinant(0, 1, 3), 96);
        checks.due("D(0, 16)", w.determinant(0, 0, 16), 65536 % 101);
        w = Checks.with(101, "3+2x^2");
        checks.due("rows are changed once: D(1, 2)", w.determinant(0, 1, 2), 95);
        w = Checks.with(7, "x^8");
        // Rows i and columns j with 8 + i - j = 8: the unit matrix; with 7, a shifted one.
        checks.due("D(8, 8)", w.determinant(0, 8, 8), 1);
        checks.due("D(7, 8)", w.determinant(0, 7, 8), 0);
        w = Checks.with(7, "x^2+x^3");
        w.set(0, 0, 1);
        // |0 1 0; 1 0 1; 1 1 0| = -1 (0 - 1)
        checks.due("D(1, 3)", w.determinant(0, 1, 3), 1);
        w = Checks.with(7, "1/1-x");
        for (int n = 2; n <= 15; n++) {
            checks.due("equal rows: D(1, n)", w.determinant(0, 1, n), 0);
        }
        w = Checks.with(2, "1+x^2");
        checks.due("D(1, 2) modulo 2", w.determinant(0, 1, 2), 1);
    }

    private void schemeArguments() {
        PadeWorkbench w = Checks.with(101, "1/1-3x");
        int max = Integer.MAX_VALUE;
        int min = Integer.MIN_VALUE;
        int[][] bad = {
            {-1, 1, 0}, {2, 1, 0}, {max, 1, 0}, {min, 1, 0}, {0, 0, 0}, {1, 0, 0}, {0, -1, 0},
            {0, 1, -1}, {1, 1, -1}, {0, 1, 15}, {1, 1, 14}, {0, 8, 1}, {1, 7, 2}, {1, 8, 0},
            {0, 9, 0}, {0, max, 0}, {0, 1 << 30, 0}, {1, 1 << 30, 0}, {0, 1, max}, {1, max, max},
            {0, min, 0}, {1, 1, min}, {0, 2, max}, {0, (1 << 30) + 1, 5}
        };
        for (int[] at : bad) {
            checks.due("scheme " + at[0] + " " + at[1] + " " + at[2],
                    w.quotientDifference(0, at[0], at[1], at[2]), INVALID);
        }
        checks.due("errors", w.errorCount(0), bad.length);
        checks.due("q(1, 14)", w.quotientDifference(0, 0, 1, 14), 3);
        checks.due("e(1, 13)", w.quotientDifference(0, 1, 1, 13), 0);
        checks.due("q(8, 0)", w.quotientDifference(0, 0, 8, 0), NONE);
        checks.due("e(7, 1)", w.quotientDifference(0, 1, 7, 1), NONE);
        checks.due("NONE is not counted", w.errorCount(0), bad.length);
    }

    /** For the Catalan numbers the continued fraction has ones alone. */
    private void catalanScheme() {
        PadeWorkbench w = new PadeWorkbench();
        long catalan = 1;
        for (int k = 0; k < 16; k++) {
            w.set(0, k, (int) (catalan % 101));
            catalan = catalan * (4 * k + 2) / (k + 2);
        }
        for (int j = 1; j <= 8; j++) {
            checks.due("q(" + j + ", 0)", w.quotientDifference(0, 0, j, 0), 1);
            if (j < 8) {
                checks.due("e(" + j + ", 0)", w.quotientDifference(0, 1, j, 0), 1);
            }
        }
        // 5 / 2; 14 / 5 - 5 / 2 = 3 / 10; q(2, 1) = 5 / 2 * 3 / 10 / (1 / 2) = 3 / 2
        checks.due("q(1, 2)", w.quotientDifference(0, 0, 1, 2), 53);
        checks.due("e(1, 1)", w.quotientDifference(0, 1, 1, 1), 51);
        checks.due("10 e(1, 2)", 10 * w.quotientDifference(0, 1, 1, 2) % 101, 3);
        checks.due("2 q(2, 1)", 2 * w.quotientDifference(0, 0, 2, 1) % 101, 3);
    }

    private void undefinedNumbers() {
        PadeWorkbench w = Checks.with(101, "1+2x+6x^2+24x^4+5x^5");
        checks.due("q(1, 0)", w.quotientDifference(0, 0, 1, 0), 2);
        checks.due("q(1, 1)", w.quotientDifference(0, 0, 1, 1), 3);
        checks.due("q(1, 2), a defined 0", w.quotientDifference(0, 0, 1, 2), 0);
        checks.due("q(1, 3), by 0", w.quotientDifference(0, 0, 1, 3), NONE);
        checks.due("q(1, 5)", w.quotientDifference(0, 0, 1, 5), 0);
        checks.due("q(1, 6)", w.quotientDifference(0, 0, 1, 6), NONE);
        checks.due("e(1, 0)", w.quotientDifference(0, 1, 1, 0), 1);
        checks.due("e(1, 1)", w.quotientDifference(0, 1, 1, 1), 98);
        checks.due("e(1, 2), with q(1, 3)", w.quotientDifference(0, 1, 1, 2), NONE);
        checks.due("e(1, 3), with q(1, 3)", w.quotientDifference(0, 1, 1, 3), NONE);
        checks.due("q(2, 0)", w.quotientDifference(0, 0, 2, 0), 92);
        checks.due("q(2, 1), with e(1, 2)", w.quotientDifference(0, 0, 2, 1), NONE);
        checks.due("e(2, 0), with q(2, 1)", w.quotientDifference(0, 1, 2, 0), NONE);
        // e(1, 0) = 0 and e(1, 1) = 1: q(2, 0) divides by 0, and q(2, 1) is defined.
        w = Checks.with(101, "1+2x+4x^2+12x^3+60x^4");
        checks.due("e(1, 0)", w.quotientDifference(0, 1, 1, 0), 0);
        checks.due("q(2, 0), by 0", w.quotientDifference(0, 0, 2, 0), NONE);
        checks.due("q(2, 1)", w.quotientDifference(0, 0, 2, 1), 6);
        // q(1) is 1, 2, 2, so that e(1, 0) = 1 and e(1, 1) = 0.
        w = Checks.with(101, "1+x+2x^2+4x^3");
        checks.due("q(2, 0), a defined 0", w.quotientDifference(0, 0, 2, 0), 0);
        checks.due("0 has no q", new PadeWorkbench().quotientDifference(0, 0, 1, 0), NONE);
    }

    private void quotientArguments() {
        PadeWorkbench w = Checks.with(101, "2");
        for (int bad : new int[] {-1, 16, Integer.MIN_VALUE, Integer.MAX_VALUE}) {
            checks.due("quotientCount at " + bad, w.quotientCount(0, bad), INVALID);
            checks.due("quotient at " + bad, w.quotient(0, bad, 0, 0), INVALID);
            // The quotient 1 does not exist, but a wrong index goes first.
            int index = bad == 16 ? 17 : bad;
            checks.due("quotient's index " + index, w.quotient(0, 3, 1, index), INVALID);
        }
        checks.due("quotient -1", w.quotient(0, 3, -1, 0), INVALID);
        checks.due("quotient min", w.quotient(0, 3, Integer.MIN_VALUE, 0), INVALID);
        checks.due("errors", w.errorCount(0), 14);
        checks.due("quotient 1", w.quotient(0, 3, 1, 0), NONE);
        checks.due("quotient max", w.quotient(0, 3, Integer.MAX_VALUE, 16), NONE);
        checks.due("quotient 17", w.quotient(0, 3, 17, 16), NONE);
    }

    private void quotientIs(PadeWorkbench w, int s, int i, int... want) {
        for (int index = 0; index <= 16; index++) {
            checks.due("quotient " + i + " of " + s + " at " + index,
                    w.quotient(0, s, i, index), index < want.length ? want[index] : 0);
        }
    }

    private void quotients() {
        PadeWorkbench w = Checks.with(101, "2");
        checks.due("count for a number", w.quotientCount(0, 15), 1);
        quotientIs(w, 15, 0, 0, 0, 0, 0, 0, 0, 0, 0, 0, 0, 0, 0, 0, 0, 0, 0, 51);
        quotientIs(w, 0, 0, 0, 51);
        w = Checks.with(101, "1/1-x");
        checks.due("count for 1 / (1 - x)", w.quotientCount(0, 5), 2);
        quotientIs(w, 5, 0, 100, 1);
        quotientIs(w, 5, 1, 1, 1, 1, 1, 1, 1);
        w = Checks.with(101, "x+5x^9");
        checks.due("c0 to c0 are 0", w.quotientCount(0, 0), 0);
        checks.due("c0 to c8", w.quotientCount(0, 8), 1);
        quotientIs(w, 8, 0, 0, 0, 0, 0, 0, 0, 0, 0, 1);
        // x^10 = (x / 5) (x + 5 x^9) - x^2 / 5; then by -x^2 / 5: -25 x^7, and x is left.
        checks.due("c0 to c9", w.quotientCount(0, 9), 3);
        quotientIs(w, 9, 0, 0, 81);
        quotientIs(w, 9, 1, 0, 0, 0, 0, 0, 0, 0, 76);
        quotientIs(w, 9, 2, 0, 20);
        w = Checks.with(2, "1+x");
        checks.due("modulo 2", w.quotientCount(0, 1), 2);
        quotientIs(w, 1, 0, 1, 1);
        quotientIs(w, 1, 1, 1, 1);
        checks.due("quotient 2", w.quotient(0, 1, 2, 0), NONE);
    }

    private void recurrenceArguments() {
        PadeWorkbench w = Checks.with(101, "1/1-x");
        for (int bad : new int[] {-1, 0, 17, Integer.MIN_VALUE, Integer.MAX_VALUE}) {
            checks.due("complexity of " + bad, w.complexity(0, bad), INVALID);
            checks.due("recurrence of " + bad, w.recurrence(0, bad, 1), INVALID);
        }
        for (int bad : new int[] {0, -1, Integer.MIN_VALUE}) {
            checks.due("recurrence at " + bad, w.recurrence(0, 16, bad), INVALID);
        }
        checks.due("errors", w.errorCount(0), 13);
        checks.due("recurrence at max", w.recurrence(0, 16, Integer.MAX_VALUE), NONE);
        checks.due("recurrence at 17", w.recurrence(0, 16, 17), NONE);
    }

    private void complexities() {
        PadeWorkbench w = new PadeWorkbench();
        checks.due("complexity of 0", w.complexity(0, 16), 0);
        checks.due("recurrence of 0", w.recurrence(0, 16, 1), NONE);
        for (int k = 0; k < 16; k++) {
            w = new PadeWorkbench();
            w.set(0, k, 5);
            checks.due("zeros alone", w.complexity(0, Math.max(k, 1)), k == 0 ? 1 : 0);
            checks.due("x^" + k, w.complexity(0, k + 1), k + 1);
            checks.due("x^" + k + " with all", w.complexity(0, 16), k + 1);
        }
        w = Checks.with(101, "1/1-x");
        w.set(0, 15, 2);
        checks.due("a geometric series but for its end", w.complexity(0, 16), 15);
        checks.due("without its end", w.complexity(0, 15), 1);
        w = Checks.with(7, "1+2x+3x^2/1+x^2");
        int[] want = {1, 1, 2, 2, 3, 3, 3};
        for (int length = 1; length <= want.length; length++) {
            checks.due("complexity of the first " + length, w.complexity(0, length), want[length - 1]);
        }
    }

    private void recurrences() {
        PadeWorkbench w = Checks.with(101, "1/1-x-x^2");
        checks.due("d = 1, L = 1", w.recurrence(0, 1, 1), NONE);
        checks.due("d = 2, L = 3", w.recurrence(0, 3, 1), NONE);
        checks.due("d = 2, L = 4: g1", w.recurrence(0, 4, 1), 1);
        checks.due("d = 2, L = 4: g2", w.recurrence(0, 4, 2), 1);
        checks.due("d = 2, L = 4: g3", w.recurrence(0, 4, 3), NONE);
        w = Checks.with(101, "4+x/1-3x+5x^4");
        checks.due("d", w.complexity(0, 16), 4);
        checks.due("d with the least L", w.complexity(0, 8), 4);
        int[] want = {3, 0, 0, 96, NONE};
        for (int i = 1; i <= 5; i++) {
            checks.due("g" + i, w.recurrence(0, 16, i), want[i - 1]);
            checks.due("g" + i + " with the least L", w.recurrence(0, 8, i), want[i - 1]);
            checks.due("g" + i + " too early", w.recurrence(0, 7, i), NONE);
        }
        // x^2 has d = 3: three zeros are its recurrence.
        w = Checks.with(101, "x^2");
        checks.due("g3 of x^2", w.recurrence(0, 6, 3), 0);
        checks.due("g4 of x^2", w.recurrence(0, 6, 4), NONE);
        checks.due("x^2 too early", w.recurrence(0, 5, 1), NONE);
    }
}
