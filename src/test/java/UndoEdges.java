import java.util.ArrayList;
import java.util.List;
import java.util.function.Supplier;

/** The clause "Undoable" of each promise that has it. */
final class UndoEdges {
    private final Checks checks;

    UndoEdges(Checks checks) {
        this.checks = checks;
    }

    /** A call that succeeds and changes something, and one that changes nothing. */
    private record Pair(Call call, int[] changing, int[] idle) {
    }

    private static int[] row(int... numbers) {
        return numbers;
    }

    /** With what few() makes; a new point is always a change. */
    private static List<Pair> pairs() {
        return List.of(
                new Pair(Call.SET_PRIME, row(7), null),
                new Pair(Call.SET, row(0, 0, 5), row(0, 0, 3)),
                new Pair(Call.ADD, row(0, 0, 3), row(0, 3, 0)),
                new Pair(Call.MULTIPLY, row(0, 0, 0), row(0, 3, 3)),
                new Pair(Call.INVERT, row(0, 0), row(2, 2)),
                new Pair(Call.SUBSTITUTE, row(0, 3, 0), row(2, 3, 2)),
                new Pair(Call.DERIVATIVE, row(0, 1), row(3, 3)),
                new Pair(Call.PARSE, row(3), row(2)),
                new Pair(Call.ADD_POINT, row(9, 9), null),
                new Pair(Call.CLEAR_POINTS, row(), null));
    }

    /** Three states are saved, series 0 is 3 + x, series 2 is 1, series 3 is 0. */
    private static PadeWorkbench few() {
        PadeWorkbench w = new PadeWorkbench();
        Checks.parse(w, 0, "3+x");
        Checks.parse(w, 2, "1");
        w.addPoint(3, 4);
        return w;
    }

    List<Edge> all() {
        List<Edge> edges = new ArrayList<>();
        for (Pair pair : pairs()) {
            edges.add(new Edge(pair.call.section(), "Undoable", "undo of " + pair.call, () -> undone(pair)));
        }
        return edges;
    }

    private void undone(Pair pair) {
        new Twins(checks, UndoEdges::few).undo(3, pair.call, pair.changing);
        changes(pair);
        dropsTheOldest(pair);
        if (pair.idle != null) {
            new Twins(checks, UndoEdges::few).undo(3, pair.call, pair.idle);
            changesNothing(UndoEdges::few, pair.call, pair.idle);
        } else if (pair.call != Call.ADD_POINT) {
            // The prime as it is, and no points: on a new object these change nothing.
            int[] idle = pair.call == Call.SET_PRIME ? row(101) : row();
            new Twins(checks, Makers.fresh()).undo(0, pair.call, idle);
            changesNothing(Makers.fresh(), pair.call, idle);
        }
    }

    /** The prime, the series and the points; the workbench is of no use afterwards. */
    private static String state(PadeWorkbench w) {
        StringBuilder state = new StringBuilder();
        for (int slot = 0; slot < 4; slot++) {
            for (int k = 0; k < 16; k++) {
                state.append(w.coefficient(slot, k)).append(' ');
            }
        }
        int points = w.clearPoints();
        w.undo();
        for (int m = 0; m < points; m++) {
            state.append(w.interpolant(m, 0, 0)).append(' ').append(w.interpolant(m, 1, 1)).append(' ');
        }
        return state.append(points).append(" modulo ").append(w.setPrime(2)).toString();
    }

    private void changes(Pair pair) {
        PadeWorkbench w = few();
        pair.call.on(w, pair.changing);
        checks.hold(pair.call.with(pair.changing) + " changes something", !state(w).equals(state(few())));
    }

    private void changesNothing(Supplier<PadeWorkbench> maker, Call call, int[] arguments) {
        PadeWorkbench w = maker.get();
        call.on(w, arguments);
        checks.hold(call.with(arguments) + " changes nothing", state(w).equals(state(maker.get())));
    }

    /** With a full stack, three of the states before are left after the call and its undo. */
    private void dropsTheOldest(Pair pair) {
        Supplier<PadeWorkbench> maker = () -> {
            PadeWorkbench w = new PadeWorkbench();
            for (int i = 1; i <= 5; i++) {
                w.set(0, 0, i);
            }
            return w;
        };
        PadeWorkbench w = maker.get();
        checks.hold(pair.call + " succeeds", pair.call.on(w, pair.call == Call.PARSE ? write(w) : pair.changing) >= 0);
        for (int left = 3; left >= 0; left--) {
            checks.due(pair.call + " and undo", w.undo(), left);
            checks.due(pair.call + " and c0", w.coefficient(0, 0), left + 2);
        }
        checks.due(pair.call + " and one undo more", w.undo(), -3);
    }

    private static int[] write(PadeWorkbench w) {
        Checks.write(w, "7");
        return row(0);
    }
}
