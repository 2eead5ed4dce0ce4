import java.lang.reflect.Constructor;
import java.lang.reflect.Field;
import java.lang.reflect.Method;
import java.lang.reflect.Modifier;
import java.util.Arrays;
import java.util.Set;
import java.util.TreeSet;

/** The public face of the document, no more and no less. */
public final class FaceTest {
    private static final String[] FACE = {
        "public BidiLevels() throws []",
        "public final static int NONE",
        "void property(3) throws [IllegalArgumentException, IllegalStateException]",
        "void bracket(2) throws [IllegalArgumentException, IllegalStateException]",
        "void mirror(2) throws [IllegalArgumentException, IllegalStateException]",
        "int add(5) throws [IllegalArgumentException, IllegalStateException]",
        "int clear(0) throws []",
        "int resolve(1) throws [IllegalArgumentException]",
        "int paragraph(2) throws [IllegalStateException, IndexOutOfBoundsException]",
        "int level(1) throws [IllegalStateException, IndexOutOfBoundsException]",
        "int kind(1) throws [IllegalStateException, IndexOutOfBoundsException]",
        "int match(1) throws [IllegalStateException, IndexOutOfBoundsException]",
        "int line(2) throws [IllegalStateException, IndexOutOfBoundsException, IllegalArgumentException]",
        "int seen(2) throws [IllegalStateException, IndexOutOfBoundsException]",
        "int place(1) throws [IllegalStateException, IndexOutOfBoundsException]"};

    private static String thrown(Class<?>[] classes) {
        return " throws " + Arrays.toString(Arrays.stream(classes).map(Class::getSimpleName).toArray());
    }

    /** How many parameters, all of them int. */
    private static String parameters(Method method) {
        for (Class<?> type : method.getParameterTypes()) {
            if (type != int.class) {
                return "(one that is no int)";
            }
        }
        return "(" + method.getParameterCount() + ")";
    }

    private static boolean isHidden(int modifiers) {
        return Modifier.isPrivate(modifiers);
    }

    public static void main(String[] args) {
        Set<String> found = new TreeSet<>();
        for (Constructor<?> c : BidiLevels.class.getDeclaredConstructors()) {
            found.add(Modifier.toString(c.getModifiers()) + " " + c.getName() + "()" + thrown(c.getExceptionTypes()));
        }
        for (Field f : BidiLevels.class.getDeclaredFields()) {
            if (!isHidden(f.getModifiers())) {
                found.add("public final static " + f.getType() + " " + f.getName());
            }
        }
        int wrong = Modifier.isFinal(BidiLevels.class.getModifiers()) ? 0 : 1;
        for (Method m : BidiLevels.class.getDeclaredMethods()) {
            if (!isHidden(m.getModifiers())) {
                boolean plain = m.getModifiers() == Modifier.PUBLIC;
                found.add((plain ? "" : "not plainly public: ") + m.getReturnType() + " " + m.getName()
                        + parameters(m) + thrown(m.getExceptionTypes()));
            }
        }
        Set<String> due = new TreeSet<>(Arrays.asList(FACE));
        for (String one : due) {
            if (!found.contains(one)) {
                wrong++;
                System.out.println("missing: " + one);
            }
        }
        for (String one : found) {
            if (!due.contains(one)) {
                wrong++;
                System.out.println("not of the face: " + one);
            }
        }
        System.out.println(found.size() + " members, " + wrong + " wrong");
        if (wrong != 0) {
            System.exit(1);
        }
    }
}
