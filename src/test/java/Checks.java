/** What the tests share: comparing answers, and giving texts and series to a workbench. */
final class Checks {
    private int made;
    private int wrong;

    void due(String call, long got, long want) {
        made++;
        if (got != want) {
            wrong++;
            System.out.println(call + " answered " + got + ", due is " + want);
        }
    }

    void hold(String what, boolean holds) {
        made++;
        if (!holds) {
            wrong++;
            System.out.println(what + " does not hold");
        }
    }

    /** How many answers were compared. */
    int made() {
        return made;
    }

    /** How many of them were not as due. */
    int wrong() {
        return wrong;
    }

    /** Ends the program, with 1 if an answer was not as due. */
    void end() {
        System.out.println(wrong == 0 ? "all answers are as due" : wrong + " answers are not as due");
        if (wrong != 0) {
            System.exit(1);
        }
    }

    /** Sets the text to these characters. */
    static void write(PadeWorkbench w, String text) {
        w.clearText();
        for (int i = 0; i < text.length(); i++) {
            w.append(text.charAt(i));
        }
    }

    static int parse(PadeWorkbench w, int slot, String text) {
        write(w, text);
        return w.parse(slot);
    }

    /** A workbench with this prime, and this fraction in series 0. */
    static PadeWorkbench with(int prime, String text) {
        PadeWorkbench w = new PadeWorkbench();
        w.setPrime(prime);
        parse(w, 0, text);
        return w;
    }

    static PadeWorkbench withPoints(int prime, int[][] points) {
        PadeWorkbench w = new PadeWorkbench();
        w.setPrime(prime);
        for (int[] point : points) {
            w.addPoint(point[0], point[1]);
        }
        return w;
    }

    /** Compares the first coefficients of a series with these, and that the rest is 0. */
    void series(String what, PadeWorkbench w, int slot, int... want) {
        for (int k = 0; k < 16; k++) {
            due(what + " c" + k, w.coefficient(slot, k), k < want.length ? want[k] : 0);
        }
    }
}
