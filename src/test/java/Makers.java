import java.util.function.Supplier;

/** Workbenches in states that the tests of edges begin with. */
final class Makers {
    private Makers() {
    }

    static Supplier<PadeWorkbench> fresh() {
        return PadeWorkbench::new;
    }

    /** The texts go into the series 0, 1, ...; the last of them stays as the text. */
    static Supplier<PadeWorkbench> series(int prime, String... texts) {
        return () -> {
            PadeWorkbench w = new PadeWorkbench();
            w.setPrime(prime);
            for (int slot = 0; slot < texts.length; slot++) {
                Checks.parse(w, slot, texts[slot]);
            }
            return w;
        };
    }

    static Supplier<PadeWorkbench> points(int prime, int[]... points) {
        return () -> Checks.withPoints(prime, points);
    }

    static Supplier<PadeWorkbench> row(int prime, int... coefficients) {
        return () -> {
            PadeWorkbench w = new PadeWorkbench();
            w.setPrime(prime);
            for (int k = 0; k < coefficients.length; k++) {
                w.set(0, k, coefficients[k]);
            }
            return w;
        };
    }

    static Supplier<PadeWorkbench> text(int prime, String text) {
        return () -> {
            PadeWorkbench w = new PadeWorkbench();
            w.setPrime(prime);
            Checks.write(w, text);
            return w;
        };
    }

    /** Four series, three points, a text, a full undo stack, and errors of each kind. */
    static PadeWorkbench busy() {
        PadeWorkbench w = new PadeWorkbench();
        Checks.write(w, " ".repeat(81));
        w.undo();
        w.setPrime(1);
        w.setPrime(13);
        Checks.parse(w, 0, "3/1-2x");
        Checks.parse(w, 1, "x+5x^15");
        Checks.parse(w, 2, "1+x^4");
        Checks.parse(w, 3, "1+2x+3x^2/1+x^2");
        w.addPoint(0, 4);
        w.addPoint(12, 0);
        w.addPoint(7, 7);
        return w;
    }

    /** The undo stack is full, and so are the text and the list of points. */
    static PadeWorkbench full() {
        PadeWorkbench w = new PadeWorkbench();
        Checks.parse(w, 0, "2/1-x");
        for (int x = 0; x < 10; x++) {
            w.addPoint(10 * x, x * x);
        }
        Checks.write(w, "1+x/1-3x" + " ".repeat(72));
        return w;
    }
}
