import java.lang.reflect.Field;
import java.lang.reflect.Method;
import java.lang.reflect.Modifier;
import java.util.Arrays;
import java.util.TreeSet;

/** The face of the class: just the constants, constructors and methods of the document. */
public final class FaceTest {
    private static final String I = "IndexOutOfBoundsException";
    private static final String A = "IllegalArgumentException";
    private static final String S = "IllegalStateException";

    // Name, parameters, and the exceptions in the order of the document.
    private static final String[][] FACE = {
        {"append", "int", A, S}, {"clearText", ""}, {"errorPosition", ""}, {"load", "", S},
        {"about", "int", A}, {"get", "int int", I}, {"run", "int int", I, A}, {"write", "int int int", I, A},
        {"eye", "int", I}, {"put", "int int", I, A, S}, {"bury", "int int", I, A, S}, {"open", "", S},
        {"close", "int", I}, {"flush", "", S}, {"merge", "int", I, S}, {"undo", "", S}, {"looks", "int", I},
        {"next", "int int", I}, {"count", "int int int", I, A}, {"hidden", ""}, {"grave", "int", I},
        {"saves", "int", I, S}, {"best", ""}, {"fewest", ""}, {"runScript", "int long", A},
        {"simulate", "long int", A}, {"save", "int", I}, {"restore", "int", I, S},
    };

    public static void main(String[] arguments) throws Exception {
        theClass();
        theMethods();
        theFields();
        theClassesInside();
        Check.end("FaceTest");
    }

    private static void theClass() {
        Class<?> c = RangeGraves.class;
        Check.same("modifiers", c.getModifiers(), Modifier.PUBLIC | Modifier.FINAL);
        Check.sameText("package", c.getPackageName(), "");
        Check.same("constructors", c.getDeclaredConstructors().length, 1);
        Check.same("the public one", c.getConstructors()[0].getParameterCount(), 0);
    }

    private static void theMethods() throws Exception {
        TreeSet<String> names = new TreeSet<>();
        for (String[] line : FACE) {
            names.add(line[0]);
            StringBuilder due = new StringBuilder("public int ").append(line[1]);
            for (int i = 2; i < line.length; i++) {
                due.append(' ').append(line[i]);
            }
            int found = 0;
            for (Method m : RangeGraves.class.getDeclaredMethods()) {
                if (m.getName().equals(line[0])) {
                    found++;
                    Check.sameText(line[0], described(m), due.toString());
                }
            }
            Check.same("methods of the name " + line[0], found, 1);
        }
        for (Method m : RangeGraves.class.getDeclaredMethods()) {
            if (!names.contains(m.getName())) {
                Check.same(m.getName() + " is private", m.getModifiers() & Modifier.PRIVATE, Modifier.PRIVATE);
            }
        }
    }

    private static String described(Method m) {
        StringBuilder all = new StringBuilder(Modifier.toString(m.getModifiers()));
        all.append(' ').append(m.getReturnType()).append(' ');
        for (int i = 0; i < m.getParameterCount(); i++) {
            all.append(i == 0 ? "" : " ").append(m.getParameterTypes()[i]);
        }
        for (Class<?> e : m.getExceptionTypes()) {
            all.append(' ').append(e.getSimpleName());
        }
        return all.toString();
    }

    private static void theFields() throws Exception {
        for (Field f : RangeGraves.class.getDeclaredFields()) {
            boolean none = f.getName().equals("NONE");
            int due = Modifier.PUBLIC | Modifier.STATIC | Modifier.FINAL;
            if (none) {
                Check.same("NONE", f.getModifiers(), due);
                Check.same("NONE", f.getInt(null), -1);
            } else {
                Check.same(f.getName() + " is private", f.getModifiers() & Modifier.PRIVATE, Modifier.PRIVATE);
            }
        }
        Check.same("public fields", RangeGraves.class.getFields().length, 1);
    }

    private static void theClassesInside() {
        Class<?>[] inside = RangeGraves.class.getDeclaredClasses();
        Check.same("some twelve classes: " + Arrays.toString(inside), inside.length <= 11 ? 1 : 0, 1);
        for (Class<?> c : inside) {
            int open = c.getModifiers() & (Modifier.PUBLIC | Modifier.PROTECTED);
            Check.same(c.getSimpleName() + " is not open", open, 0);
            Check.same(c.getSimpleName() + " is static", c.getModifiers() & Modifier.STATIC, Modifier.STATIC);
            Check.same(c.getSimpleName() + " has some twenty fields", c.getDeclaredFields().length <= 20 ? 1 : 0, 1);
        }
    }
}
