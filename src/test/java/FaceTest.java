import java.lang.reflect.Constructor;
import java.lang.reflect.Field;
import java.lang.reflect.Method;
import java.lang.reflect.Modifier;
import java.util.ArrayList;
import java.util.Arrays;
import java.util.List;
import java.util.TreeSet;

/** The public face of the document, and rule 1 of the language: nothing else is to be seen from outside. */
public final class FaceTest {
    private static final String A = " IllegalArgumentException";
    private static final String I = " IndexOutOfBoundsException";
    private static final String S = " IllegalStateException";
    private static final String[] FACE = {
        "int clear()", "void setSums(int, int, int)" + A, "void setTest(int, int, int)" + A,
        "int setPenalty(int)" + A, "int add(int)" + A + S, "int addRun(int, int, int)" + A + S, "int size()",
        "int value(int)" + I, "int highSum()", "int lowSum()", "int testSum()", "int alarms()",
        "int alarmKind(int)" + I, "int alarmNumber(int)" + I, "int alarmStart(int)" + I, "int cost(int, int)" + I,
        "int middle(int, int)" + I, "int changes()", "int change(int)" + I, "int bestCost()",
        "int leastCost(int)" + A + S, "int greedyChanges()", "int greedyChange(int)" + I, "int greedyCost()",
        "boolean toggleTruth(int)" + I, "int matched(int, int)" + A, "int falseAlarms(int, int)" + A,
        "float averageDelay(int, int)" + A + S};

    private FaceTest() {
    }

    public static void main(String[] args) {
        Check.same("class", Modifier.toString(Breakpoint.class.getModifiers()), "public final");
        Check.same("constructors", constructors(), "[public []]");
        Check.same("methods", seenMethods().toString(), new TreeSet<>(Arrays.asList(FACE)).toString());
        Check.same("fields seen", seenFields(Breakpoint.class).toString(), "[]");
        Check.same("private methods of a public name", namesakes().toString(), "[]");
        Check.same("static state", staticState().toString(), "[]");
        Check.end();
    }

    private static String constructors() {
        List<String> all = new ArrayList<>();
        for (Constructor<?> c : Breakpoint.class.getDeclaredConstructors()) {
            all.add(Modifier.toString(c.getModifiers()) + " " + Arrays.toString(c.getParameterTypes()));
        }
        return all.toString();
    }

    private static TreeSet<String> seenMethods() {
        TreeSet<String> seen = new TreeSet<>();
        for (Method m : Breakpoint.class.getDeclaredMethods()) {
            if (!Modifier.isPrivate(m.getModifiers()) && !m.isSynthetic()) {
                seen.add((Modifier.toString(m.getModifiers()) + " " + told(m)).replaceFirst("^public ", ""));
            }
        }
        return seen;
    }

    private static String told(Method m) {
        StringBuilder text = new StringBuilder(m.getReturnType().getName()).append(' ').append(m.getName());
        text.append(Arrays.toString(m.getParameterTypes()).replace('[', '(').replace(']', ')'));
        for (Class<?> thrown : m.getExceptionTypes()) {
            text.append(' ').append(thrown.getSimpleName());
        }
        return text.toString();
    }

    private static List<String> seenFields(Class<?> of) {
        List<String> seen = new ArrayList<>();
        for (Field f : of.getDeclaredFields()) {
            if (!Modifier.isPrivate(f.getModifiers()) && !f.isSynthetic()) {
                seen.add(f.getName());
            }
        }
        return seen;
    }

    private static List<String> namesakes() {
        TreeSet<String> names = new TreeSet<>();
        for (Method m : Breakpoint.class.getMethods()) {
            names.add(m.getName());
        }
        List<String> found = new ArrayList<>();
        List<Class<?>> classes = new ArrayList<>(Arrays.asList(Breakpoint.class.getDeclaredClasses()));
        classes.add(Breakpoint.class);
        for (Class<?> c : classes) {
            for (Method m : c.getDeclaredMethods()) {
                boolean isFace = c == Breakpoint.class && Modifier.isPublic(m.getModifiers());
                if (!isFace && names.contains(m.getName())) {
                    found.add(c.getSimpleName() + "." + m.getName());
                }
            }
        }
        return found;
    }

    private static List<String> staticState() {
        List<String> found = new ArrayList<>();
        List<Class<?>> classes = new ArrayList<>(Arrays.asList(Breakpoint.class.getDeclaredClasses()));
        classes.add(Breakpoint.class);
        for (Class<?> c : classes) {
            for (Field f : c.getDeclaredFields()) {
                boolean isConstant = Modifier.isFinal(f.getModifiers()) && f.getType().isPrimitive();
                if (Modifier.isStatic(f.getModifiers()) && !isConstant && !f.isSynthetic()) {
                    found.add(c.getSimpleName() + "." + f.getName());
                }
            }
        }
        return found;
    }
}
