import java.util.function.Supplier;

/**
 * Two workbenches that the same calls have made. One of them gets the call that is tested; then
 * both get the same calls, and their answers tell what the tested call has changed.
 */
final class Twins {
    private static final int INVALID = -2;

    private final Checks checks;
    private final Supplier<PadeWorkbench> maker;

    Twins(Checks checks, Supplier<PadeWorkbench> maker) {
        this.checks = checks;
        this.maker = maker;
    }

    /** The call answers this error and counts it, each time by 1, and changes nothing else. */
    void refuse(int code, Call call, int... arguments) {
        String what = call.with(arguments);
        int kind = INVALID - code;
        PadeWorkbench tried = maker.get();
        PadeWorkbench twin = maker.get();
        for (int times = 1; times <= 2; times++) {
            checks.due(what, call.on(tried, arguments), code);
            for (int k = 0; k < 3; k++) {
                int grown = k == kind ? times : 0;
                checks.due(what + " and errorCount " + k, tried.errorCount(k), twin.errorCount(k) + grown);
            }
        }
        same(what, tried, twin, kind, 2);
    }

    /** The call answers this and changes nothing, no counter either. */
    void ask(long want, Call call, int... arguments) {
        String what = call.with(arguments);
        PadeWorkbench tried = maker.get();
        PadeWorkbench twin = maker.get();
        checks.due(what, call.on(tried, arguments), want);
        checks.due(what + " once more", call.on(tried, arguments), want);
        same(what, tried, twin, 0, 0);
    }

    /** The call answers this and counts no error; what else it changes is not looked at. */
    void allow(long want, Call call, int... arguments) {
        String what = call.with(arguments);
        PadeWorkbench tried = maker.get();
        PadeWorkbench twin = maker.get();
        checks.due(what, call.on(tried, arguments), want);
        for (int k = 0; k < 3; k++) {
            checks.due(what + " and errorCount " + k, tried.errorCount(k), twin.errorCount(k));
        }
    }

    /** The call saves one state, which undo brings back; the maker leaves so many on the stack. */
    void undo(int states, Call call, int... arguments) {
        String what = call.with(arguments);
        PadeWorkbench tried = maker.get();
        PadeWorkbench twin = maker.get();
        checks.hold(what + " succeeds", call.on(tried, arguments) >= 0);
        checks.due(what + " and undo", tried.undo(), states);
        same(what + " undone", tried, twin, 0, 0);
    }

    /** Nothing tells the two apart but one counter, which has grown by so much. */
    private void same(String what, PadeWorkbench tried, PadeWorkbench twin, int kind, int grown) {
        sameDigest(what, tried, twin, kind, grown);
        for (int slot = 0; slot < 4; slot++) {
            for (int k = 0; k < 16; k++) {
                checks.due(what + " and a coefficient", tried.coefficient(slot, k), twin.coefficient(slot, k));
            }
        }
        for (int i = 0; i < 5; i++) {
            checks.due(what + " and undo", tried.undo(), twin.undo());
            sameDigest(what + " and undo", tried, twin, kind, grown);
        }
        checks.due(what + " and parse", tried.parse(3), twin.parse(3));
        sameDigest(what + " and parse", tried, twin, kind, grown);
        checks.due(what + " and append", tried.append('+'), twin.append('+'));
        checks.due(what + " and append", tried.append('1'), twin.append('1'));
        checks.due(what + " and parse", tried.parse(2), twin.parse(2));
        sameDigest(what + " and parse", tried, twin, kind, grown);
        checks.due(what + " and clearText", tried.clearText(), twin.clearText());
        checks.due(what + " and setPrime", tried.setPrime(2), twin.setPrime(2));
        checks.due(what + " and clearPoints", tried.clearPoints(), twin.clearPoints());
    }

    /** The digest is linear in each counter, so that the difference is known. */
    private void sameDigest(String what, PadeWorkbench tried, PadeWorkbench twin, int kind, int grown) {
        int points = points(twin);
        checks.due(what + " and the points", points(tried), points);
        long weight = grown;
        for (int after = kind + 1; after < 6 + 4 * (16 + 16 + 2) + 1 + 3 * points; after++) {
            weight *= 31;
        }
        checks.due(what + " and the digest", tried.digest() - twin.digest(), weight);
    }

    /** Counts with one more error if there are fewer than 10 points. */
    private static int points(PadeWorkbench w) {
        int count = 0;
        while (count < 10 && w.unattainable(count) != INVALID) {
            count++;
        }
        return count;
    }
}
