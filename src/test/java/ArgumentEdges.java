import java.util.ArrayList;
import java.util.LinkedHashMap;
import java.util.List;
import java.util.Map;
import java.util.function.Supplier;

/**
 * For each argument line of the promises: the least and the greatest value are taken, with the
 * answers that are due; the values next to them, and the smallest and the largest int, are not.
 */
final class ArgumentEdges {
    private static final int INVALID = -2;
    private static final int NONE = -1;
    private static final int MAX = Integer.MAX_VALUE;
    private static final int MIN = Integer.MIN_VALUE;
    private static final String SLOT = "slot: number of a series, 0 to 3";
    private static final String TARGET =
            "to: number of the series that is replaced, 0 to 3, possibly one of the others";
    private static final String TOP_DEGREE = "m: numerator degree, 0 or more";
    private static final String POINTS_DEGREE = "m: numerator degree, 0 to the number of points minus 1";
    private static final String BOTTOM_DEGREE = "n: denominator degree, 0 or more, m + n at most 15";

    /** An argument: its place, and its least and its greatest value with the answers due. */
    private record Range(String clause, Supplier<PadeWorkbench> maker, Call call, int place, int[] base,
            int least, int dueLeast, int greatest, int dueGreatest) {
    }

    private final Checks checks;
    private final List<Range> ranges = new ArrayList<>();
    private Supplier<PadeWorkbench> maker;
    private int[] base;

    ArgumentEdges(Checks checks) {
        this.checks = checks;
        fieldAndSeries();
        text();
        degrees();
        coefficientsAndValues();
        schemes();
        quotientsAndRecurrences();
        pointsAndErrors();
    }

    private static Supplier<PadeWorkbench> units() {
        return Makers.series(101, "1+2x", "2+3x^15", "3", "4/1-x");
    }

    private static Supplier<PadeWorkbench> shifts() {
        return Makers.series(101, "x", "2x^15", "x+x^2", "3x/1-x");
    }

    private static Supplier<PadeWorkbench> smallAndLarge() {
        return Makers.series(101, "3", "x", "x", "4/1-x");
    }

    private void from(Supplier<PadeWorkbench> newMaker, int... newBase) {
        maker = newMaker;
        base = newBase;
    }

    private void range(String clause, Call call, int place, int least, int dueLeast, int greatest, int dueGreatest) {
        ranges.add(new Range(clause, maker, call, place, base, least, dueLeast, greatest, dueGreatest));
    }

    private void fieldAndSeries() {
        from(Makers.fresh(), 7);
        range("p: a prime from 2 to 251", Call.SET_PRIME, 0, 2, 101, 251, 101);
        from(units(), 0, 1, 7);
        range(SLOT, Call.SET, 0, 0, 2, 3, 4);
        range("value: 0 to p - 1", Call.SET, 2, 0, 2, 100, 2);
        from(units(), 1, 0, 7);
        range("index: 0 to 15", Call.SET, 1, 0, 2, 15, 3);
        for (int prime : new int[] {2, 3, 251}) {
            from(Makers.series(prime, "1"), 0, 0, 0);
            range("value: 0 to p - 1", Call.SET, 2, 0, 1, prime - 1, 1);
        }
        from(units(), 0, 0);
        range(SLOT, Call.COEFFICIENT, 0, 0, 1, 3, 4);
        from(units(), 1, 0);
        range("index: 0 to 15", Call.COEFFICIENT, 1, 0, 2, 15, 3);
        for (Call call : new Call[] {Call.ADD, Call.MULTIPLY}) {
            from(units(), 0, 2, 2);
            range("a: number of a series, 0 to 3", call, 0, 0, 2, 3, 16);
            range(TARGET, call, 2, 0, 2, 3, 2);
            from(units(), 2, 0, 2);
            range("b: number of a series, 0 to 3", call, 1, 0, 2, 3, 16);
        }
        from(units(), 0, 2);
        range("a: number of a series, 0 to 3", Call.INVERT, 0, 0, 16, 3, 2);
        range(TARGET, Call.INVERT, 1, 0, 16, 3, 16);
        from(shifts(), 0, 2, 1);
        range("a: number of a series, 0 to 3", Call.SUBSTITUTE, 0, 0, 2, 3, 15);
        range(TARGET, Call.SUBSTITUTE, 2, 0, 2, 3, 2);
        from(shifts(), 2, 0, 1);
        range("b: number of a series, 0 to 3", Call.SUBSTITUTE, 1, 0, 2, 3, 15);
        from(units(), 3, 2);
        range("a: number of a series, 0 to 3", Call.DERIVATIVE, 0, 0, 1, 3, 15);
        range(TARGET, Call.DERIVATIVE, 1, 0, 15, 3, 15);
    }

    private void text() {
        from(Makers.text(101, "1+x"), 65);
        range("value: 0 to 127", Call.APPEND, 0, 0, 4, 127, 4);
        range(SLOT, Call.PARSE, 0, 0, 2, 3, 2);
    }

    private void degrees() {
        from(units(), 0, 15, 0);
        range(SLOT, Call.NUMERATOR_DEGREE, 0, 0, 1, 3, 15);
        from(units(), 3, 0, 0);
        range(TOP_DEGREE, Call.NUMERATOR_DEGREE, 1, 0, 0, 15, 15);
        range(BOTTOM_DEGREE, Call.NUMERATOR_DEGREE, 2, 0, 0, 15, 0);
        from(units(), 0, 0, 15);
        range(SLOT, Call.DENOMINATOR_DEGREE, 0, 0, 15, 3, 1);
        from(units(), 0, 0, 0);
        range(TOP_DEGREE, Call.DENOMINATOR_DEGREE, 1, 0, 0, 15, 0);
        range(BOTTOM_DEGREE, Call.DENOMINATOR_DEGREE, 2, 0, 0, 15, 15);
        from(units(), 0, 1, 0);
        range(SLOT, Call.ORDER, 0, 0, 16, 3, 2);
        range(SLOT, Call.BLOCK_SIZE, 0, 0, 14, 3, 0);
        from(units(), 3, 0, 0);
        range(TOP_DEGREE, Call.ORDER, 1, 0, 1, 15, 16);
        range(BOTTOM_DEGREE, Call.ORDER, 2, 0, 1, 15, 16);
        range(TOP_DEGREE, Call.BLOCK_SIZE, 1, 0, 0, 15, 0);
        range(BOTTOM_DEGREE, Call.BLOCK_SIZE, 2, 0, 0, 15, 14);
    }

    private void coefficientsAndValues() {
        from(units(), 0, 0, 0, 0);
        range(SLOT, Call.NUMERATOR, 0, 0, 1, 3, 4);
        range(TOP_DEGREE, Call.DENOMINATOR, 1, 0, 1, 15, 1);
        range(BOTTOM_DEGREE, Call.DENOMINATOR, 2, 0, 1, 15, 1);
        from(units(), 3, 0, 0, 0);
        range(TOP_DEGREE, Call.NUMERATOR, 1, 0, 4, 15, 4);
        range(BOTTOM_DEGREE, Call.NUMERATOR, 2, 0, 4, 15, 4);
        from(units(), 1, 15, 0, 0);
        range("index: 0 to 15", Call.NUMERATOR, 3, 0, 2, 15, 3);
        from(units(), 0, 0, 1, 1);
        range(SLOT, Call.DENOMINATOR, 0, 0, 99, 3, 100);
        // Below 1 there is 1 - 2x + 4x^2 - ..., whose last coefficient is -2^15.
        from(units(), 0, 0, 15, 0);
        range("index: 0 to 15", Call.DENOMINATOR, 3, 0, 1, 15, 57);
        from(units(), 0, 1, 0, 1);
        range(SLOT, Call.EVALUATE, 0, 0, 3, 3, 8);
        range("x: 0 to p - 1", Call.EVALUATE, 3, 0, 1, 100, 100);
        from(units(), 3, 0, 0, 2);
        range(BOTTOM_DEGREE, Call.EVALUATE, 2, 0, 4, 15, 97);
        from(units(), 3, 0, 0, 1);
        range(TOP_DEGREE, Call.EVALUATE, 1, 0, 4, 15, 64);
        from(Makers.series(2, "1+x"), 0, 1, 0, 0);
        range("x: 0 to p - 1", Call.EVALUATE, 3, 0, 1, 1, 0);
        from(Makers.series(251, "5+x"), 0, 1, 0, 0);
        range("x: 0 to p - 1", Call.EVALUATE, 3, 0, 5, 250, 4);
        from(smallAndLarge(), 0, 0);
        range(SLOT, Call.NORMAL_COUNT, 0, 0, 0, 3, 1);
        from(units(), 3, 0);
        range("s: 0 to 15", Call.NORMAL_COUNT, 1, 0, 1, 15, 1);
    }

    private void schemes() {
        from(units(), 0, 1, 1);
        range(SLOT, Call.DETERMINANT, 0, 0, 2, 3, 4);
        from(units(), 1, 0, 0);
        range("m: 0 or more", Call.DETERMINANT, 1, 0, 1, 16, 1);
        range("n: 0 or more, m + n at most 16", Call.DETERMINANT, 2, 0, 1, 16, 88);
        from(units(), 0, 0, 1, 0);
        range(SLOT, Call.QUOTIENT_DIFFERENCE, 0, 0, 2, 3, 1);
        from(units(), 3, 1, 1, 0);
        range("j: 1 or more", Call.QUOTIENT_DIFFERENCE, 2, 1, 0, 7, NONE);
        range("k: 0 or more", Call.QUOTIENT_DIFFERENCE, 3, 0, 0, 13, 0);
        from(units(), 3, 0, 1, 0);
        range("kind: 0 for q(j, k), 1 for e(j, k)", Call.QUOTIENT_DIFFERENCE, 1, 0, 1, 1, 0);
        range("j: 1 or more", Call.QUOTIENT_DIFFERENCE, 2, 1, 1, 8, NONE);
        range("k: 0 or more", Call.QUOTIENT_DIFFERENCE, 3, 0, 1, 14, 1);
    }

    private void quotientsAndRecurrences() {
        from(smallAndLarge(), 0, 1);
        range(SLOT, Call.QUOTIENT_COUNT, 0, 0, 1, 3, 2);
        from(units(), 3, 0);
        range("s: 0 to 15", Call.QUOTIENT_COUNT, 1, 0, 1, 15, 2);
        // x^2 / 3, and x^2 / (4 + 4x) with the quotient (x - 1) / 4
        from(smallAndLarge(), 0, 1, 0, 1);
        range(SLOT, Call.QUOTIENT, 0, 0, 0, 3, 76);
        from(units(), 3, 0, 0, 0);
        range("s: 0 to 15", Call.QUOTIENT, 1, 0, 0, 15, 25);
        from(units(), 3, 15, 0, 0);
        range("i: number of the quotient, 0 or more", Call.QUOTIENT, 2, 0, 25, MAX, NONE);
        from(smallAndLarge(), 0, 15, 0, 0);
        range("index: 0 to 16", Call.QUOTIENT, 3, 0, 0, 16, 34);
        from(units(), 0, 3);
        range(SLOT, Call.COMPLEXITY, 0, 0, 2, 3, 1);
        from(units(), 0, 1);
        range("length: L, 1 to 16", Call.COMPLEXITY, 1, 1, 1, 16, 2);
        from(units(), 0, 4, 1);
        range(SLOT, Call.RECURRENCE, 0, 0, 0, 3, 1);
        from(units(), 3, 1, 1);
        range("length: L, 1 to 16", Call.RECURRENCE, 1, 1, NONE, 16, 1);
        from(units(), 3, 16, 1);
        range("i: 1 or more", Call.RECURRENCE, 2, 1, 1, MAX, NONE);
    }

    private void pointsAndErrors() {
        for (int prime : new int[] {2, 101, 251}) {
            from(Makers.series(prime, "1"), 0, 0);
            range("x: 0 to p - 1", Call.ADD_POINT, 0, 0, 1, prime - 1, 1);
            range("y: 0 to p - 1", Call.ADD_POINT, 1, 0, 1, prime - 1, 1);
        }
        // y = 2x; with m = 0 the denominator is 12 / 11 of what goes through 1 / 2x.
        from(Makers.points(101, new int[][] {{1, 2}, {2, 4}, {3, 6}}), 2, 0, 0);
        range(POINTS_DEGREE, Call.INTERPOLANT, 0, 0, 47, 2, 0);
        from(Makers.points(101, new int[][] {{1, 2}, {2, 4}, {3, 6}}), 2, 0, 1);
        range("part: 0 for the numerator P, 1 for the denominator Q", Call.INTERPOLANT, 1, 0, 2, 1, 0);
        from(Makers.points(101, ninthPowers()), 9, 0, 0);
        range("index: 0 to 9", Call.INTERPOLANT, 2, 0, 0, 9, 1);
        range(POINTS_DEGREE, Call.INTERPOLANT, 0, 0, 0, 9, 0);
        from(Makers.points(101, new int[][] {{1, 5}}), 0);
        range(POINTS_DEGREE, Call.UNATTAINABLE, 0, 0, 0, 0, 0);
        from(Makers.points(101, new int[][] {{1, 0}, {2, 0}, {3, 6}}), 2);
        range(POINTS_DEGREE, Call.UNATTAINABLE, 0, 0, 1, 2, 0);
        from(Makers.points(101, ninthPowers()), 9);
        range(POINTS_DEGREE, Call.UNATTAINABLE, 0, 0, 9, 9, 0);
        from(ArgumentEdges::failing, 1);
        range("kind: 0 for INVALID, 1 for REJECTED, 2 for FULL", Call.ERROR_COUNT, 0, 0, 3, 2, 1);
    }

    private static int[][] ninthPowers() {
        int[][] points = new int[10][];
        for (int x = 0; x < 10; x++) {
            points[x] = new int[] {x, (int) (Math.pow(x, 9) % 101)};
        }
        return points;
    }

    /** Three calls were INVALID, two REJECTED, one FULL. */
    private static PadeWorkbench failing() {
        PadeWorkbench w = new PadeWorkbench();
        w.coefficient(4, 0);
        w.coefficient(0, 16);
        w.setPrime(0);
        w.undo();
        w.invert(0, 0);
        Checks.write(w, " ".repeat(81));
        return w;
    }

    List<Edge> all() {
        List<Edge> edges = new ArrayList<>();
        Map<Call, List<Range>> byCall = new LinkedHashMap<>();
        for (Range range : ranges) {
            String name = range.call + " argument " + range.place;
            edges.add(new Edge(range.call.section(), range.clause, name, () -> bothEnds(range)));
            byCall.computeIfAbsent(range.call, call -> new ArrayList<>()).add(range);
        }
        byCall.forEach((call, rows) -> edges.add(new Edge(call.section(), invalidClause(call),
                call + " with wrong arguments", () -> severalWrong(rows))));
        return edges;
    }

    private static String invalidClause(Call call) {
        switch (call) {
            case SET_PRIME:
                return "INVALID if p is out of range or not a prime";
            case APPEND:
                return "INVALID if value is out of range";
            case PARSE:
                return "INVALID if slot is out of range (the text is not looked at then)";
            case INTERPOLANT:
                return "INVALID if an argument is out of range (always if there are no points)";
            case UNATTAINABLE:
                return "INVALID if m is out of range";
            case ERROR_COUNT:
                return "INVALID (which is counted, too) if kind is out of range";
            default:
                return "INVALID if an argument is out of range";
        }
    }

    private static int[] changed(int[] row, int place, int value) {
        int[] made = row.clone();
        made[place] = value;
        return made;
    }

    private static List<Integer> wrongValues(Range range) {
        List<Integer> wrong = new ArrayList<>(List.of(range.least - 1, MIN));
        if (range.greatest < MAX) {
            wrong.addAll(List.of(range.greatest + 1, MAX));
        }
        return wrong;
    }

    private void bothEnds(Range range) {
        Twins twins = new Twins(checks, range.maker);
        taken(twins, range, range.least, range.dueLeast);
        taken(twins, range, range.greatest, range.dueGreatest);
        for (int wrong : wrongValues(range)) {
            twins.refuse(INVALID, range.call, changed(range.base, range.place, wrong));
        }
    }

    private static void taken(Twins twins, Range range, int value, int due) {
        int[] arguments = changed(range.base, range.place, value);
        if (range.call.undoable || range.call == Call.APPEND) {
            twins.allow(due, range.call, arguments);
        } else {
            twins.ask(due, range.call, arguments);
        }
    }

    /** However many of the arguments are wrong, the answer is INVALID and one error is counted. */
    private void severalWrong(List<Range> rows) {
        int width = rows.get(0).base.length;
        for (int choice = 1; choice < 1 << width; choice++) {
            for (int kind = 0; kind < 4; kind++) {
                int[] arguments = rows.get(0).base.clone();
                for (Range range : rows) {
                    List<Integer> wrong = wrongValues(range);
                    if ((choice >> range.place & 1) == 1) {
                        arguments[range.place] = wrong.get(kind % wrong.size());
                    }
                }
                new Twins(checks, Makers::busy).refuse(INVALID, rows.get(0).call, arguments);
                new Twins(checks, Makers::full).refuse(INVALID, rows.get(0).call, arguments);
            }
        }
    }
}
