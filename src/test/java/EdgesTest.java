import java.io.IOException;
import java.lang.reflect.InvocationTargetException;
import java.lang.reflect.Method;
import java.util.ArrayList;
import java.util.Comparator;
import java.util.LinkedHashSet;
import java.util.List;
import java.util.Map;
import java.util.Set;

/**
 * Runs the tests of the document's clauses, each with the clause that it holds, and fails also if
 * a clause of the document has no test, or a test's clause does not stand in the document.
 */
public final class EdgesTest {
    /** What asks nothing of the class. */
    private static final Set<String> FREE = Set.of(
        "what later calls answer is free",
        "The constants:",
        "The constructor and the methods follow, a promise each: the signature, then what it does");

    private final Checks checks = new Checks();
    private final List<Edge> edges = new ArrayList<>();

    public static void main(String[] args) throws IOException {
        EdgesTest test = new EdgesTest();
        test.edges.addAll(new ArgumentEdges(test.checks).all());
        test.edges.addAll(new UndoEdges(test.checks).all());
        test.collect(new SeriesEdges(test.checks));
        test.collect(new TextEdges(test.checks));
        test.collect(new PadeEdges(test.checks));
        test.collect(new SchemeEdges(test.checks));
        test.collect(new PointEdges(test.checks));
        test.collect(new StateEdges(test.checks));
        for (Edge edge : test.edges) {
            test.run(edge);
        }
        test.compareWithDocument(new Document().sections());
        System.out.println(test.edges.size() + " tests of clauses");
        test.checks.end();
    }

    private void collect(Object tests) {
        Method[] methods = tests.getClass().getDeclaredMethods();
        java.util.Arrays.sort(methods, Comparator.comparing(Method::getName));
        for (Method method : methods) {
            Says says = method.getAnnotation(Says.class);
            if (says != null) {
                edges.add(new Edge(says.in(), says.clause(), method.getName(), () -> invoke(tests, method)));
            }
        }
    }

    private static void invoke(Object tests, Method method) {
        try {
            method.invoke(tests);
        } catch (IllegalAccessException | InvocationTargetException e) {
            throw new IllegalStateException(e);
        }
    }

    private void run(Edge edge) {
        int made = checks.made();
        int wrong = checks.wrong();
        try {
            edge.body().run();
        } catch (RuntimeException e) {
            e.printStackTrace(System.out);
            checks.hold(edge.name() + " ends without an exception", false);
        }
        checks.hold(edge.name() + " compares something", checks.made() > made);
        if (checks.wrong() > wrong) {
            System.out.println("  that was " + edge.name() + ": " + edge.section() + ": " + edge.clause());
        }
    }

    private void compareWithDocument(Map<String, List<String>> document) {
        Set<String> tested = new LinkedHashSet<>();
        for (Edge edge : edges) {
            tested.add(edge.section() + ": " + edge.clause());
        }
        Set<String> written = new LinkedHashSet<>();
        document.forEach((section, clauses) -> {
            for (String clause : clauses) {
                written.add(section + ": " + clause);
                boolean free = section.equals("Not promised") || FREE.contains(clause)
                        || section.equals("What it is") && clause.startsWith("A workbench");
                checks.hold("a test of [" + section + ": " + clause + "]",
                        free || tested.contains(section + ": " + clause));
            }
        });
        for (String clause : tested) {
            checks.hold("the document says [" + clause + "]", written.contains(clause));
        }
    }
}
