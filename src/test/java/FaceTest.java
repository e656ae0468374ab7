import java.io.IOException;
import java.lang.reflect.Constructor;
import java.lang.reflect.Executable;
import java.lang.reflect.Field;
import java.lang.reflect.Member;
import java.lang.reflect.Method;
import java.lang.reflect.Modifier;
import java.util.List;
import java.util.StringJoiner;
import java.util.TreeSet;

/** The public face, the constants, and promise 1. */
public final class FaceTest {
    private final Checks checks = new Checks();

    public static void main(String[] args) throws IOException {
        FaceTest test = new FaceTest();
        test.members(new Document().face());
        test.constants();
        test.newObject();
        test.objectsAreApart();
        test.checks.end();
    }

    /** The class has the lines of the document's face, and no others that can be seen from outside. */
    private void members(List<String> face) {
        TreeSet<String> written = new TreeSet<>();
        for (String line : face) {
            written.add(line.replaceAll(";$", "").replaceAll("int \\w+(?=[,)])", "int"));
        }
        TreeSet<String> found = new TreeSet<>(List.of(PadeWorkbench.class.toGenericString() + " {", "}"));
        for (Method method : PadeWorkbench.class.getDeclaredMethods()) {
            String head = Modifier.toString(method.getModifiers()) + " " + method.getReturnType();
            add(found, method, head + " " + method.getName() + types(method));
        }
        for (Constructor<?> constructor : PadeWorkbench.class.getDeclaredConstructors()) {
            add(found, constructor, Modifier.toString(constructor.getModifiers()) + " " + constructor.getName()
                    + types(constructor));
        }
        for (Field field : PadeWorkbench.class.getDeclaredFields()) {
            add(found, field, Modifier.toString(field.getModifiers()) + " " + field.getType() + " " + field.getName()
                    + " = " + valueOf(field));
        }
        for (String line : written) {
            checks.hold("the class has [" + line + "]", found.contains(line));
        }
        for (String line : found) {
            checks.hold("the document has [" + line + "]", written.contains(line));
        }
    }

    private static void add(TreeSet<String> found, Member member, String line) {
        if (!Modifier.isPrivate(member.getModifiers())) {
            found.add(line);
        }
    }

    private static String types(Executable method) {
        StringJoiner types = new StringJoiner(", ", "(", ")");
        for (Class<?> type : method.getParameterTypes()) {
            types.add(type.toString());
        }
        return types.toString();
    }

    private static Object valueOf(Field field) {
        try {
            return Modifier.isPublic(field.getModifiers()) && Modifier.isStatic(field.getModifiers())
                    ? field.get(null) : "?";
        } catch (IllegalAccessException e) {
            throw new IllegalStateException(e);
        }
    }

    private void constants() {
        checks.due("NONE", PadeWorkbench.NONE, -1);
        checks.due("INVALID", PadeWorkbench.INVALID, -2);
        checks.due("REJECTED", PadeWorkbench.REJECTED, -3);
        checks.due("FULL", PadeWorkbench.FULL, -4);
    }

    private void newObject() {
        PadeWorkbench w = new PadeWorkbench();
        for (int slot = 0; slot < 4; slot++) {
            checks.series("new object, series " + slot, w, slot);
        }
        for (int kind = 0; kind < 3; kind++) {
            checks.due("new object, errorCount " + kind, w.errorCount(kind), 0);
        }
        checks.due("new object, unattainable", w.unattainable(0), -2);
        checks.due("new object, undo", w.undo(), -3);
        checks.due("new object, clearText", w.clearText(), 0);
        checks.due("new object, clearPoints", w.clearPoints(), 0);
        checks.due("new object, set with 101", w.set(0, 0, 101), -2);
        checks.due("new object, set with 100", w.set(0, 0, 100), 0);
        checks.due("new object, setPrime", w.setPrime(2), 101);
    }

    private void objectsAreApart() {
        PadeWorkbench a = new PadeWorkbench();
        PadeWorkbench b = new PadeWorkbench();
        long before = b.digest();
        a.setPrime(7);
        a.set(0, 0, 1);
        a.addPoint(1, 1);
        a.append(49);
        a.coefficient(-1, 0);
        checks.due("digest of another object", b.digest(), before);
    }
}
