/** Promises 10 to 12: the text and its reading. */
public final class TextTest {
    private static final int INVALID = -2;
    private static final int REJECTED = -3;
    private static final int FULL = -4;

    private final Checks checks = new Checks();

    public static void main(String[] args) {
        TextTest test = new TextTest();
        test.appending();
        test.correctTexts();
        test.fractions();
        test.syntaxErrors();
        test.everyByteAtEveryPlace();
        test.longTexts();
        test.failuresChangeNothing();
        test.checks.end();
    }

    private void appending() {
        PadeWorkbench w = new PadeWorkbench();
        for (int bad : new int[] {-1, 128, Integer.MIN_VALUE, Integer.MAX_VALUE}) {
            checks.due("append(" + bad + ")", w.append(bad), INVALID);
        }
        checks.due("append(0)", w.append(0), 1);
        checks.due("append(127)", w.append(127), 2);
        for (int i = 3; i <= 80; i++) {
            checks.due("append", w.append(32), i);
        }
        checks.due("append to 80", w.append(32), FULL);
        checks.due("append(128) to 80", w.append(128), INVALID);
        checks.due("full", w.errorCount(2), 1);
        checks.due("invalid", w.errorCount(0), 5);
        checks.due("append is not undoable", w.undo(), REJECTED);
        checks.due("clearText", w.clearText(), 80);
        checks.due("clearText again", w.clearText(), 0);
        checks.due("append after it", w.append(49), 1);
        checks.due("clearText is not undoable", w.undo(), REJECTED);
    }

    private void good(String text, int... want) {
        PadeWorkbench w = new PadeWorkbench();
        int count = 0;
        for (int c : want) {
            count += c != 0 ? 1 : 0;
        }
        checks.due("parse of [" + text + "]", Checks.parse(w, 1, text), count);
        checks.series("[" + text + "]", w, 1, want);
        checks.due("the text is kept", w.clearText(), text.length());
        checks.due("one state is saved", w.undo(), 0);
        checks.due("no error is counted", w.errorCount(0), 0);
    }

    private void correctTexts() {
        good("0");
        good("7", 7);
        good("0007", 7);
        good("9999", 0);
        good("1234", 22);
        good("-1", 100);
        good("-0");
        good("x", 0, 1);
        good("-x", 0, 100);
        good("3x", 0, 3);
        good("0x");
        good("x^0", 1);
        good("x^00", 1);
        good("2x^01", 0, 2);
        good("x^9", 0, 0, 0, 0, 0, 0, 0, 0, 0, 1);
        good("x^15", 0, 0, 0, 0, 0, 0, 0, 0, 0, 0, 0, 0, 0, 0, 0, 1);
        good("x^10-x^2+5", 5, 0, 100, 0, 0, 0, 0, 0, 0, 0, 1);
        good("1+1+x+x-3x^1+50x^0+50", 1, 100);
        good("x-x");
        good(" 1 ", 1);
        good("  -  2 x ^ 3  +  x  -  4  ", 97, 1, 0, 99);
        good("x ^ 2 / 4", 0, 0, 76);
        good("0/5");
        good("2/-2", 100);
        good("1/x^0", 1);
        good(" 6 + x / 2 + x - x ", 3, 51);
    }

    private void fractions() {
        PadeWorkbench w = new PadeWorkbench();
        checks.due("1/1-x", Checks.parse(w, 0, "1/1-x"), 16);
        checks.due("1+x/1-x", Checks.parse(w, 0, "1+x/1-x"), 16);
        for (int k = 0; k < 16; k++) {
            checks.due("(1 + x) / (1 - x)", w.coefficient(0, k), k == 0 ? 1 : 2);
        }
        checks.due("1/x", Checks.parse(w, 0, "1/x"), REJECTED);
        checks.due("x/x", Checks.parse(w, 0, "x/x"), REJECTED);
        checks.due("0/0", Checks.parse(w, 0, "0/0"), REJECTED);
        checks.due("1/101", Checks.parse(w, 0, "1/101"), REJECTED);
        checks.due("1/5-5+x", Checks.parse(w, 0, "1/5-5+x"), REJECTED);
        checks.due("rejected", w.errorCount(1), 5);
        w.setPrime(5);
        checks.due("1/5 modulo 5", Checks.parse(w, 0, "1/5"), REJECTED);
        checks.due("1/6 modulo 5", Checks.parse(w, 0, "1/6"), 1);
        checks.due("a wrong text before a wrong denominator", Checks.parse(w, 0, "1/x+"), -14);
    }

    private void bad(String text, int position) {
        PadeWorkbench w = new PadeWorkbench();
        w.set(0, 3, 9);
        checks.due("parse of [" + text + "]", Checks.parse(w, 0, text), -10 - position);
        for (int kind = 0; kind < 3; kind++) {
            checks.due("no error is counted", w.errorCount(kind), 0);
        }
        checks.series("[" + text + "] changes nothing", w, 0, 0, 0, 0, 9);
        checks.due("[" + text + "] saves nothing", w.undo(), 0);
    }

    private void syntaxErrors() {
        bad("", 0);
        bad("   ", 3);
        bad("-", 1);
        bad("- ", 2);
        bad("+1", 0);
        bad("--1", 1);
        bad("1+-1", 2);
        bad("1 + ", 4);
        bad("/1", 0);
        bad("1/", 2);
        bad("1/ ", 3);
        bad("1/+1", 2);
        bad("1/--1", 3);
        bad("1/2/3", 3);
        bad("1/2 )", 4);
        bad("1 2", 2);
        bad("12345", 4);
        bad("1234 5", 5);
        bad("1/12345", 6);
        bad("x2", 1);
        bad("x 2", 2);
        bad("xx", 1);
        bad("2xx", 2);
        bad("x^", 2);
        bad("x^ ", 3);
        bad("x^x", 2);
        bad("x^ -1", 3);
        bad("^2", 0);
        bad("2^2", 1);
        bad("x^2^2", 3);
        bad("x^2x", 3);
        bad("x^2 3", 4);
        bad("x^1 5", 4);
        bad("x^16", 2);
        bad("x^ 99", 3);
        bad("x^16+", 2);
        bad("x^16$", 2);
        bad("x^16 7", 2);
        bad("x^123", 4);
        bad("x^999", 4);
        bad("x^000", 4);
        bad("x^15x", 4);
        bad("1+x^3+2x^20", 9);
        bad("X", 0);
        bad("1.5", 1);
        bad("1\t+1", 1);
        bad("1*x", 1);
        bad("(1)", 0);
        bad("\0", 0);
        bad("1\177", 1);
    }

    /** A byte that no text has is the error wherever it stands in a correct text. */
    private void everyByteAtEveryPlace() {
        String text = "-12x^3+4/5-x^2 ";
        String signs = "0123456789x^+-/ ";
        for (int place = 0; place <= text.length(); place++) {
            for (int value = 0; value < 128; value++) {
                if (signs.indexOf(value) < 0) {
                    String made = text.substring(0, place) + (char) value + text.substring(place);
                    PadeWorkbench w = new PadeWorkbench();
                    checks.due("[" + made + "]", Checks.parse(w, 3, made), -10 - place);
                }
            }
        }
    }

    private void longTexts() {
        StringBuilder text = new StringBuilder("1");
        while (text.length() < 79) {
            text.append("+1");
        }
        text.append("0");
        good(text.toString(), 49);
        text.setCharAt(79, '+');
        bad(text.toString(), 80);
        bad(" ".repeat(80), 80);
        good(" ".repeat(79) + "4", 4);
        good("4" + " ".repeat(79), 4);
    }

    private void failuresChangeNothing() {
        PadeWorkbench w = new PadeWorkbench();
        Checks.write(w, "$");
        for (int slot : new int[] {-1, 4, Integer.MIN_VALUE, Integer.MAX_VALUE}) {
            checks.due("parse(" + slot + ")", w.parse(slot), INVALID);
        }
        checks.due("invalid", w.errorCount(0), 4);
        checks.due("nothing was saved", w.undo(), REJECTED);
        Checks.write(w, "5");
        for (int slot = 0; slot < 4; slot++) {
            checks.due("parse(" + slot + ")", w.parse(slot), 1);
            checks.due("c0", w.coefficient(slot, 0), 5);
        }
    }
}
