/** The clauses of TEXT, and of promises 10 to 12 but for their argument lines. */
final class TextEdges {
    private static final int INVALID = -2;
    private static final int REJECTED = -3;
    private static final int FULL = -4;

    private final Checks checks;

    TextEdges(Checks checks) {
        this.checks = checks;
    }

    /** The text is correct, and gives this series. */
    private void good(int prime, String text, int... want) {
        PadeWorkbench w = Makers.text(prime, text).get();
        int count = 0;
        for (int c : want) {
            count += c != 0 ? 1 : 0;
        }
        checks.due("parse of [" + text + "]", w.parse(1), count);
        checks.series("[" + text + "]", w, 1, want);
    }

    private void good(String text, int... want) {
        good(101, text, want);
    }

    /** The text has a syntax error at this position, and reading it changes nothing. */
    private void bad(String text, int position) {
        new Twins(checks, Makers.text(101, text)).ask(-10 - position, Call.PARSE, 0);
    }

    private static int[] power(int exponent) {
        int[] row = new int[16];
        row[exponent] = 1;
        return row;
    }

    // ---- TEXT

    @Says(in = "TEXT", clause = "A series can be given by a text of at most 80 bytes: "
            + "fraction = polynomial [ \"/\" polynomial ]")
    void fraction() {
        good("7", 7);
        good("7/1", 7);
        bad("", 0);
        bad("/", 0);
        bad("/7", 0);
        bad("7/", 2);
        bad("7/1/1", 3);
        bad("7//1", 2);
        String sum = "1" + "+1".repeat(39);
        good(sum + "0", 49);
        good(sum.substring(0, 77) + "/39", 1);
        bad(sum + "+", 80);
        bad(sum.substring(0, 78) + "1/", 80);
    }

    @Says(in = "TEXT", clause = "polynomial = [ \"-\" ] term { ( \"+\" | \"-\" ) term }")
    void polynomial() {
        good("1", 1);
        good("-1", 100);
        good("1+x", 1, 1);
        good("1-x", 1, 100);
        good("-1-x", 100, 100);
        good("-x+1", 1, 100);
        good("1-x+x^2-x^3", 1, 100, 1, 100);
        good("1/-1", 100);
        good("-1/-1", 1);
        bad("+1", 0);
        bad("--1", 1);
        bad("-", 1);
        bad("-+1", 1);
        bad("1+", 2);
        bad("1-", 2);
        bad("1++1", 2);
        bad("1+-1", 2);
        bad("1--1", 2);
        bad("1/+1", 2);
        bad("1/--1", 3);
        bad("-/1", 1);
        bad("1+/1", 2);
    }

    @Says(in = "TEXT", clause = "term = number [ power ] | power")
    void term() {
        good("3", 3);
        good("3x", 0, 3);
        good("3x^2", 0, 0, 3);
        good("x", 0, 1);
        good("x^2", 0, 0, 1);
        good("0x");
        bad("x3", 1);
        bad("xx", 1);
        bad("3xx", 2);
        bad("3x4", 2);
        bad("3x^2x", 4);
        bad("3^2", 1);
        bad("3 4", 2);
        bad("(3)", 0);
        bad("3*x", 1);
        bad("y", 0);
        bad("X", 0);
    }

    @Says(in = "TEXT", clause = "power = \"x\" [ \"^\" exponent ]")
    void power() {
        good("x", 0, 1);
        good("x^0", 1);
        good("x^1", 0, 1);
        bad("x^", 2);
        bad("x^x", 2);
        bad("x^-1", 2);
        bad("x^+1", 2);
        bad("x^^1", 2);
        bad("x^/1", 2);
        bad("^1", 0);
        bad("x^1^1", 3);
    }

    @Says(in = "TEXT", clause = "A number has 1 to 4 digits and is taken modulo p")
    void number() {
        good("0");
        good("9", 9);
        good("100", 100);
        good("101");
        good("102", 1);
        good("1000", 91);
        good("9999", 0);
        good("0000");
        good("0001", 1);
        good("-9998", 1);
        good("9998x^15", 0, 0, 0, 0, 0, 0, 0, 0, 0, 0, 0, 0, 0, 0, 0, 100);
        good("1/102", 1);
        good(2, "9999", 1);
        good(2, "9998");
        good(251, "250", 250);
        good(251, "251");
        good(251, "9999", 210);
        good(251, "-9999", 41);
        bad("10000", 4);
        bad("00000", 4);
        bad("00001x", 4);
        bad("1/10000", 6);
    }

    @Says(in = "TEXT", clause = "an exponent has 1 or 2 digits and is at most 15")
    void exponent() {
        for (int k = 0; k < 16; k++) {
            good("x^" + k, power(k));
            good("x^" + (k < 10 ? "0" : "") + k, power(k));
        }
        for (int k = 16; k < 100; k++) {
            bad("x^" + k, 2);
        }
        bad("x^000", 4);
        bad("x^015", 4);
        bad("1/1+x^16", 6);
    }

    @Says(in = "TEXT", clause = "Spaces (byte 32) may stand anywhere except inside numbers and exponents")
    void spaces() {
        String text = "-12x^13+4/56-x^2";
        int[] want = new int[16];
        PadeWorkbench plain = Makers.text(101, text).get();
        plain.parse(0);
        for (int k = 0; k < 16; k++) {
            want[k] = plain.coefficient(0, k);
        }
        for (int place = 0; place <= text.length(); place++) {
            // The digits 12, 13 and 56 can't be parted: the second one is the error.
            boolean inside = place == 2 || place == 6 || place == 11;
            for (String gap : new String[] {" ", "   "}) {
                String made = text.substring(0, place) + gap + text.substring(place);
                if (inside) {
                    bad(made, place + gap.length());
                } else {
                    good(made, want);
                }
            }
        }
        good(" - 12 ", 89);
        good("x ^ 1 ", 0, 1);
        good(" ".repeat(79) + "5", 5);
        good("5" + " ".repeat(79), 5);
        good(" ".repeat(39) + "5" + " ".repeat(40), 5);
        bad(" ", 1);
        bad(" ".repeat(80), 80);
        bad("\t1", 0);
        bad("1\n", 1);
        bad("1\t+1", 1);
        bad("\37" + "1", 0);
        bad("!1", 0);
    }

    @Says(in = "TEXT", clause = "Terms with the same power are added")
    void sameTerms() {
        good("1+1", 2);
        good("100+1");
        good("x+x+x", 0, 3);
        good("x-x");
        good("x^15+x^15+98x^15", 0, 0, 0, 0, 0, 0, 0, 0, 0, 0, 0, 0, 0, 0, 0, 100);
        good("5+x^0+0x+x^00", 7);
        good("2x+3x^1+4x^01", 0, 9);
        good("1/50+50+3", 51);
        good("9999+9999-1", 100);
    }

    @Says(in = "TEXT", clause = "The slash divides everything before it by everything after it")
    void slash() {
        good("4+2x/2", 2, 1);
        good("4+2x/1+1", 2, 1);
        good("1+x^15/1-x^15", 1, 0, 0, 0, 0, 0, 0, 0, 0, 0, 0, 0, 0, 0, 0, 2);
        good("0/5");
        good("x-x/1-x");
        good("5/5", 1);
        good("1-x/1-x", 1);
    }

    @Says(in = "TEXT", clause = "A syntax error is at the position of the first byte that cannot continue "
            + "a correct text, or at the length of the text if it ends too early")
    void firstError() {
        bad("", 0);
        bad("1+", 2);
        bad("1+ ", 3);
        bad("x^ ", 3);
        bad("1/ ", 3);
        bad("- ", 2);
        bad("$", 0);
        bad("1$$", 1);
        bad("1+$+$", 2);
        bad("1 $", 2);
        bad("1$ ", 1);
        bad("1$+x^16", 1);
        bad("1/2 /3$", 4);
        bad("1" + "+1".repeat(39) + "$", 79);
        bad("1" + " ".repeat(78) + "$", 79);
        bad("1" + " ".repeat(78) + "1", 79);
        bad("1" + " ".repeat(78) + "+", 80);
        for (int value = 0; value < 128; value++) {
            if ("0123456789x- ".indexOf(value) < 0) {
                bad("" + (char) value, 0);
            }
            if ("0123456789x+-/ ".indexOf(value) < 0) {
                bad("5" + (char) value, 1);
            }
            if ("^+-/ ".indexOf(value) < 0) {
                bad("x" + (char) value, 1);
            }
            if ("0123456789 ".indexOf(value) < 0) {
                bad("x^" + (char) value, 2);
            }
            if ("0123456789+-/ ".indexOf(value) < 0) {
                bad("x^1" + (char) value, 3);
            }
            if ("+-/ ".indexOf(value) < 0) {
                bad("x^1 " + (char) value, 4);
            }
        }
    }

    @Says(in = "TEXT", clause = "Such a byte is also: the fifth digit of a number, the third digit of an exponent "
            + "(whatever the first two are), and, if an exponent has exactly two digits and is greater than 15, "
            + "its first digit")
    void digitsTooMany() {
        bad("12345", 4);
        bad("123456", 4);
        bad("1+12345", 6);
        bad("12345$", 4);
        bad("1234$", 4);
        bad("x^100", 4);
        bad("x^150", 4);
        bad("x^160", 4);
        bad("x^999", 4);
        bad("x^000", 4);
        bad("x^1234", 4);
        bad("x^ 160", 5);
        bad("x^16", 2);
        bad("x^ 16", 3);
        bad("x^99", 2);
        bad("x^16 ", 2);
        bad("x^16$", 2);
        bad("x^16x", 2);
        bad("x^16 0", 2);
        bad("x^16+", 2);
        bad("x^16/", 2);
        bad("x^15$", 4);
        bad("x^1$", 3);
        bad("x^9 9", 4);
        bad(" ".repeat(76) + "x^16", 78);
        bad(" ".repeat(75) + "x^160", 79);
        bad(" ".repeat(75) + "12345", 79);
        good(" ".repeat(76) + "x^15", power(15));
    }

    // ---- Promise 10

    @Says(in = "Promise 10", clause = "Appends a byte to the text")
    void appendAppends() {
        PadeWorkbench w = new PadeWorkbench();
        w.append('2');
        checks.due("parse of 2", w.parse(0), 1);
        w.append('x');
        w.append('^');
        w.append('1');
        w.append('5');
        checks.due("parse of 2x^15", w.parse(0), 1);
        checks.series("2x^15", w, 0, 0, 0, 0, 0, 0, 0, 0, 0, 0, 0, 0, 0, 0, 0, 0, 2);
        w.append(127);
        checks.due("a byte that no text has", w.parse(0), -15);
        w.clearText();
        w.append(0);
        checks.due("the byte 0", w.parse(0), -10);
    }

    @Says(in = "Promise 10", clause = "Returns the new length of the text")
    void appendTellsTheLength() {
        PadeWorkbench w = new PadeWorkbench();
        for (int length = 1; length <= 80; length++) {
            checks.due("append", w.append(length % 128), length);
            if (length == 40) {
                checks.due("a refused byte", w.append(128), INVALID);
            }
        }
        w.clearText();
        checks.due("after clearText", w.append(49), 1);
    }

    @Says(in = "Promise 10", clause = "FULL if the text has 80 bytes")
    void appendToAFullText() {
        Twins full = new Twins(checks, Makers::full);
        for (int value : new int[] {0, 32, 43, 49, 127}) {
            full.refuse(FULL, Call.APPEND, value);
        }
        String almost = "1" + " ".repeat(78);
        new Twins(checks, Makers.text(101, almost)).allow(80, Call.APPEND, 49);
        PadeWorkbench w = Makers.text(101, almost + "+").get();
        checks.due("the byte 81", w.append('1'), FULL);
        checks.due("the text still ends too early", w.parse(0), -90);
        checks.due("its length", w.clearText(), 80);
        checks.due("and then", w.append('1'), 1);
    }

    // ---- Promise 11

    @Says(in = "Promise 11", clause = "Empties the text")
    void clearTextEmpties() {
        for (String text : new String[] {"", "1", "1+x", "1" + " ".repeat(79)}) {
            PadeWorkbench w = Makers.text(101, text).get();
            w.clearText();
            checks.due("parse of an empty text", w.parse(0), -10);
            checks.due("the first byte", w.append('7'), 1);
            checks.due("parse", w.parse(0), 1);
            checks.series("nothing of the old text is left", w, 0, 7);
        }
    }

    @Says(in = "Promise 11", clause = "Returns its previous length")
    void clearTextTellsTheLength() {
        new Twins(checks, Makers.fresh()).ask(0, Call.CLEAR_TEXT);
        for (int length : new int[] {0, 1, 79, 80}) {
            PadeWorkbench w = Makers.text(101, " ".repeat(length)).get();
            checks.due("clearText", w.clearText(), length);
            checks.due("clearText again", w.clearText(), 0);
        }
        PadeWorkbench w = Makers.text(101, " ".repeat(81)).get();
        checks.due("the byte 81 was refused", w.clearText(), 80);
    }

    // ---- Promise 12

    @Says(in = "Promise 12", clause = "Stores the power series of the fraction in the text, which is not changed")
    void parseStores() {
        for (int slot = 0; slot < 4; slot++) {
            PadeWorkbench w = Makers.text(101, "1+x/1-x").get();
            w.parse(slot);
            for (int other = 0; other < 4; other++) {
                int[] want = new int[16];
                java.util.Arrays.fill(want, 2);
                want[0] = 1;
                checks.series("parse into " + slot, w, other, other == slot ? want : new int[0]);
            }
            checks.due("parse once more", w.parse(slot), 16);
            checks.due("the text is kept", w.clearText(), 7);
        }
        PadeWorkbench w = Makers.text(101, "1/1-x").get();
        w.parse(0);
        w.setPrime(2);
        checks.due("with another prime", w.parse(0), 16);
    }

    @Says(in = "Promise 12", clause = "Returns the number of coefficients of the result that are not 0")
    void parseCounts() {
        new Twins(checks, Makers.text(101, "0")).allow(0, Call.PARSE, 0);
        new Twins(checks, Makers.text(101, "101")).allow(0, Call.PARSE, 0);
        new Twins(checks, Makers.text(101, "x^15")).allow(1, Call.PARSE, 0);
        new Twins(checks, Makers.text(101, "x/1-x")).allow(15, Call.PARSE, 0);
        new Twins(checks, Makers.text(101, "1/1-x")).allow(16, Call.PARSE, 0);
        new Twins(checks, Makers.text(101, "1/1-x^2")).allow(8, Call.PARSE, 0);
    }

    @Says(in = "Promise 12", clause = "-10 - q for a syntax error at position q (no error is counted)")
    void syntaxErrors() {
        new Twins(checks, Makers.text(101, "")).ask(-10, Call.PARSE, 3);
        new Twins(checks, Makers.text(101, "1+x^16")).ask(-14, Call.PARSE, 3);
        new Twins(checks, Makers.text(101, "1" + "+x".repeat(39) + "+")).ask(-90, Call.PARSE, 0);
        new Twins(checks, () -> {
            PadeWorkbench w = Makers.busy();
            w.append('+');
            return w;
        }).ask(-26, Call.PARSE, 0);
    }

    /** Where the text is wrong, there is no fraction, and so no denominator. */
    @Says(in = "Promise 12", clause = "-10 - q for a syntax error at position q (no error is counted)")
    void syntaxErrorBeforeDenominator() {
        bad("1/x+", 4);
        bad("1/0$", 3);
        bad("1/x^16", 4);
        bad("1/0/1", 3);
        bad("0/0 0", 4);
    }

    @Says(in = "Promise 12", clause = "INVALID if slot is out of range (the text is not looked at then)")
    void slotBeforeText() {
        for (String text : new String[] {"", "$", "1+", "1/0", "1/x", "1"}) {
            for (int slot : new int[] {-1, 4, Integer.MIN_VALUE, Integer.MAX_VALUE}) {
                new Twins(checks, Makers.text(101, text)).refuse(INVALID, Call.PARSE, slot);
            }
        }
    }

    @Says(in = "Promise 12", clause = "REJECTED if the constant term of the denominator is 0")
    void parseRejects() {
        for (String text : new String[] {"1/0", "1/x", "0/0", "x/x", "1/101", "1/0000", "1/5-5", "1/x^15",
            "1/100+1+x", "1/-x+x^2", "0/x"}) {
            for (int slot = 0; slot < 4; slot++) {
                new Twins(checks, Makers.text(101, text)).refuse(REJECTED, Call.PARSE, slot);
            }
        }
        new Twins(checks, Makers.text(2, "1/2")).refuse(REJECTED, Call.PARSE, 0);
        new Twins(checks, Makers.text(3, "1/2")).allow(1, Call.PARSE, 0);
        new Twins(checks, Makers.text(101, "1/102")).allow(1, Call.PARSE, 0);
        new Twins(checks, Makers.text(101, "1/x+1")).allow(16, Call.PARSE, 0);
        // The constant term of the whole text, and of the numerator, is free.
        new Twins(checks, Makers.text(101, "x")).allow(1, Call.PARSE, 0);
        new Twins(checks, Makers.text(101, "0/1")).allow(0, Call.PARSE, 0);
    }
}
