import java.lang.reflect.Constructor;
import java.lang.reflect.Field;
import java.lang.reflect.Method;
import java.lang.reflect.Modifier;
import java.util.TreeSet;

/** The public face, the constants, and promise 1. */
public final class FaceTest {
    private static final String[] METHODS = {
        "int setPrime 1", "int set 3", "int coefficient 2", "int add 3", "int multiply 3",
        "int invert 2", "int substitute 3", "int derivative 2", "int append 1", "int clearText 0",
        "int parse 1", "int numeratorDegree 3", "int denominatorDegree 3", "int numerator 4",
        "int denominator 4", "int order 3", "int blockSize 3", "int evaluate 4",
        "int normalCount 2", "int determinant 3", "int quotientDifference 4",
        "int quotientCount 2", "int quotient 4", "int complexity 2", "int recurrence 3",
        "int addPoint 2", "int clearPoints 0", "int interpolant 3", "int unattainable 1",
        "int undo 0", "int errorCount 1", "long digest 0"
    };
    private static final String[] CONSTANTS = {"NONE", "INVALID", "REJECTED", "FULL"};

    private final Checks checks = new Checks();

    public static void main(String[] args) {
        FaceTest test = new FaceTest();
        test.methods();
        test.fields();
        test.newObject();
        test.objectsAreApart();
        test.checks.end();
    }

    private void methods() {
        TreeSet<String> found = new TreeSet<>();
        for (Method method : PadeWorkbench.class.getDeclaredMethods()) {
            if (Modifier.isPrivate(method.getModifiers())) {
                continue;
            }
            String name = method.getReturnType() + " " + method.getName();
            found.add(name + " " + method.getParameterCount());
            checks.hold(name + " is public", Modifier.isPublic(method.getModifiers()));
            checks.hold(name + " is no static method", !Modifier.isStatic(method.getModifiers()));
            for (Class<?> type : method.getParameterTypes()) {
                checks.hold(name + " takes int alone", type == int.class);
            }
        }
        checks.hold("the methods are the document's " + found,
                found.equals(new TreeSet<>(java.util.Arrays.asList(METHODS))));
        Constructor<?>[] constructors = PadeWorkbench.class.getDeclaredConstructors();
        checks.due("constructors", constructors.length, 1);
        checks.hold("the constructor is public", Modifier.isPublic(constructors[0].getModifiers()));
        checks.due("arguments of the constructor", constructors[0].getParameterCount(), 0);
        int modifiers = PadeWorkbench.class.getModifiers();
        checks.hold("public and final", Modifier.isPublic(modifiers) && Modifier.isFinal(modifiers));
    }

    private void fields() {
        int seen = 0;
        for (Field field : PadeWorkbench.class.getDeclaredFields()) {
            if (!Modifier.isPrivate(field.getModifiers())) {
                seen++;
                checks.hold(field.getName() + " is in the face",
                        java.util.Arrays.asList(CONSTANTS).contains(field.getName()));
            }
        }
        checks.due("constants", seen, 4);
        checks.due("NONE", PadeWorkbench.NONE, -1);
        checks.due("INVALID", PadeWorkbench.INVALID, -2);
        checks.due("REJECTED", PadeWorkbench.REJECTED, -3);
        checks.due("FULL", PadeWorkbench.FULL, -4);
    }

    private void newObject() {
        PadeWorkbench w = new PadeWorkbench();
        for (int slot = 0; slot < 4; slot++) {
            checks.series("new object, series " + slot, w, slot);
        }
        for (int kind = 0; kind < 3; kind++) {
            checks.due("new object, errorCount " + kind, w.errorCount(kind), 0);
        }
        checks.due("new object, unattainable", w.unattainable(0), -2);
        checks.due("new object, undo", w.undo(), -3);
        checks.due("new object, clearText", w.clearText(), 0);
        checks.due("new object, clearPoints", w.clearPoints(), 0);
        checks.due("new object, set with 101", w.set(0, 0, 101), -2);
        checks.due("new object, set with 100", w.set(0, 0, 100), 0);
        checks.due("new object, setPrime", w.setPrime(2), 101);
    }

    private void objectsAreApart() {
        PadeWorkbench a = new PadeWorkbench();
        PadeWorkbench b = new PadeWorkbench();
        long before = b.digest();
        a.setPrime(7);
        a.set(0, 0, 1);
        a.addPoint(1, 1);
        a.append(49);
        a.coefficient(-1, 0);
        checks.due("digest of another object", b.digest(), before);
    }
}
