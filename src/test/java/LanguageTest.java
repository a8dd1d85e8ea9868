import java.io.IOException;
import java.lang.reflect.Constructor;
import java.lang.reflect.Executable;
import java.lang.reflect.Field;
import java.lang.reflect.Method;
import java.lang.reflect.Modifier;
import java.nio.file.Files;
import java.nio.file.Path;
import java.util.ArrayList;
import java.util.Arrays;
import java.util.List;
import java.util.Map;
import java.util.TreeMap;
import java.util.TreeSet;
import java.util.regex.Matcher;
import java.util.regex.Pattern;

/**
 * What can be read off the class's file of the rules 2 to 13 of LANGUAGE.md (FaceTest has rule 1). It
 * reads names, not meanings: methods of one name in several classes count as one.
 */
public final class LanguageTest {
    private static final String FILE = "src/main/java/Breakpoint.java";
    private static final String LIBRARY = "Math Integer Long System Arrays List";
    private static final String EXCEPTIONS = "IllegalStateException IllegalArgumentException "
            + "IndexOutOfBoundsException ArithmeticException UnsupportedOperationException "
            + "NoSuchElementException RuntimeException";
    private static final String WORDS_OF_JAVA = "if for while switch do catch return throw new super this";
    private static final Pattern METHOD = Pattern.compile("( +)(?!(?:return|throw|new|else)\\b)[\\w<>\\[\\] ]*?(\\w+)"
            + "\\([^()]*\\)[\\w, ]*\\{");

    private final String text;
    private final String[] lines;
    private final List<Class<?>> classes = new ArrayList<>();
    /** The text of each method, by its name; of several of a name, one behind the other. */
    private final Map<String, String> bodies = new TreeMap<>();

    private LanguageTest(String source) {
        text = withoutComments(source);
        lines = text.split("\n", -1);
        classes.add(Breakpoint.class);
        classes.addAll(Arrays.asList(Breakpoint.class.getDeclaredClasses()));
    }

    public static void main(String[] args) throws IOException {
        LanguageTest test = new LanguageTest(Files.readString(Path.of(FILE)));
        test.readMethods();
        test.words();
        test.classesInside();
        test.library();
        test.signs();
        test.exceptions();
        test.divisors();
        test.loops();
        test.depthOfCalls();
        test.sizes();
        test.newObjects();
        Check.end();
    }

    private static String withoutComments(String source) {
        return source.replaceAll("(?s)/\\*.*?\\*/", "").replaceAll("//[^\n]*", "");
    }

    private List<String> found(String pattern) {
        List<String> all = new ArrayList<>();
        Matcher matcher = Pattern.compile(pattern).matcher(text);
        while (matcher.find()) {
            all.add(matcher.group(matcher.groupCount()));
        }
        return all;
    }

    private static boolean isOneOf(String word, String words) {
        return Arrays.asList(words.split(" ")).contains(word);
    }

    /** A method ends at the first brace that stands as far to the right as its own first line. */
    private void readMethods() {
        for (int i = 0; i < lines.length; i++) {
            Matcher matcher = METHOD.matcher(lines[i]);
            if (matcher.matches() && !isOneOf(matcher.group(2), WORDS_OF_JAVA)) {
                int end = i + 1;
                while (!lines[end].equals(matcher.group(1) + "}")) {
                    end++;
                }
                String name = matcher.group(2);
                String body = String.join("\n", Arrays.copyOfRange(lines, i + 1, end));
                bodies.merge(name, body, (one, other) -> one + "\n" + other);
                Check.same("rule 11, lines of " + name, end - i + 1 > 60, false);
            }
        }
        for (Class<?> c : classes) {
            for (Method m : c.getDeclaredMethods()) {
                Check.same("the reading of " + m.getName(), m.isSynthetic() || bodies.containsKey(m.getName()), true);
            }
        }
    }

    private void words() {
        Check.same("words", found("\\b(package|finally|synchronized|assert|Object)\\b").toString(), "[]");
        Check.same("rules 4 and 13, imports", found("\\bimport (?!java\\.util\\.\\w+;)[^;]*").toString(), "[]");
        Check.same("rule 2, lambdas and references", found("->|::").toString(), "[]");
        Check.same("rule 6, of your own objects", found("\\b(equals|hashCode|toString) *\\(").toString(), "[]");
        Check.same("rule 10, joining by +", found("\"\\s*\\+|\\+\\s*\"").toString(), "[]");
    }

    private void classesInside() {
        Check.same("rule 11, classes", classes.size() > 12, false);
        for (Class<?> c : classes) {
            boolean fits = c == Breakpoint.class || Modifier.isStatic(c.getModifiers());
            Check.same("rule 1, " + c.getName() + " is static", fits, true);
            Check.same("rule 2, classes inside of " + c.getName(),
                    c == Breakpoint.class || c.getDeclaredClasses().length == 0, true);
        }
    }

    private void library() {
        for (String name : found("\\b([A-Z]\\w*)\\.\\w")) {
            boolean isOwn = classes.stream().anyMatch(c -> c.getSimpleName().equals(name));
            Check.same("rule 4, " + name, isOwn || isOneOf(name, LIBRARY), true);
        }
        Check.same("rule 4, Exact", found("\\.(\\w+Exact)\\b").toString(), "[]");
        for (String call : found("\\bSystem\\.(\\w+)")) {
            Check.same("rules 4 and 13, System", call, "arraycopy");
        }
    }

    private void signs() {
        for (int i = 0; i < text.length(); i++) {
            char sign = text.charAt(i);
            Check.same("rule 4, sign " + (int) sign + " at " + i, sign >= 1 && sign <= 127, true);
        }
    }

    private void exceptions() {
        int thrown = found("\\bthrow\\b").size();
        List<String> told = found("\\bthrow new (\\w+)\\((?:\"[^\"]*\")?\\);");
        Check.same("rule 6, throw new E(\"a written text\")", told.size(), thrown);
        for (String name : told) {
            Check.same("rule 6, " + name, isOneOf(name, EXCEPTIONS), true);
        }
        for (Class<?> c : classes) {
            String constructor = bodies.getOrDefault(c.getSimpleName(), "");
            Check.same("rule 6, throw in " + c.getSimpleName(), constructor.contains("throw "), false);
        }
        // narrower than rule 6: nothing is caught, so that nothing that the machine throws can be
        Check.same("rule 6, what is caught", found("\\bcatch\\b").toString(), "[]");
    }

    /** A divisor is a number, a constant, or a name that the same method holds against 0. */
    private void divisors() {
        Pattern division = Pattern.compile("(?:[/%]=?\\s*|floor(?:Div|Mod)\\([^;]*?, *)(?:\\(\\w+\\) *)?([\\w.(]+)");
        for (Map.Entry<String, String> method : bodies.entrySet()) {
            Matcher matcher = division.matcher(method.getValue());
            while (matcher.find()) {
                String divisor = matcher.group(1);
                boolean isConstant = divisor.matches("[1-9]\\d*|[A-Z][A-Z_]*");
                boolean isLookedAt = method.getValue().contains(divisor + " > 0")
                        || method.getValue().contains(divisor + " != 0");
                Check.same("rule 7, " + method.getKey() + " divides by " + divisor, isConstant || isLookedAt, true);
            }
        }
    }

    private void loops() {
        Check.same("rule 9, loops without an end", found("while \\(true|for \\([^;]*;\\s*;").toString(), "[]");
    }

    /** Rules 8 and 11: no method comes to itself again, and calls go at most eight deep. */
    private void depthOfCalls() {
        for (String name : bodies.keySet()) {
            int depth = depth(name, 1);
            Check.same("rules 8 and 11, calls from " + name + " are " + depth + " deep", depth > 8, false);
        }
    }

    private int depth(String name, int ahead) {
        int deepest = 1;
        if (ahead > 20) {
            return deepest;
        }
        Matcher matcher = Pattern.compile("(\\w+)\\(").matcher(bodies.get(name));
        TreeSet<String> called = new TreeSet<>();
        while (matcher.find()) {
            called.add(matcher.group(1));
        }
        for (String other : called) {
            if (bodies.containsKey(other)) {
                deepest = Math.max(deepest, 1 + depth(other, ahead + 1));
            }
        }
        return deepest;
    }

    private void sizes() {
        for (Class<?> c : classes) {
            int fields = 0;
            for (Field f : c.getDeclaredFields()) {
                fields += Modifier.isStatic(f.getModifiers()) ? 0 : 1;
            }
            Check.same("rule 11, " + fields + " fields of " + c.getName(), fields > 20, false);
            for (Method m : c.getDeclaredMethods()) {
                parameters(m);
            }
            for (Constructor<?> constructor : c.getDeclaredConstructors()) {
                parameters(constructor);
            }
        }
    }

    private static void parameters(Executable of) {
        Check.same("rule 11, parameters of " + of.getName(), of.getParameterCount() > 7, false);
    }

    /** Narrower than rule 12: all that an object needs is made with it, so that no call makes anything. */
    private void newObjects() {
        for (Map.Entry<String, String> method : bodies.entrySet()) {
            boolean isConstructor = Character.isUpperCase(method.getKey().charAt(0));
            Matcher matcher = Pattern.compile("(?<!throw )\\bnew\\s+(\\w+)").matcher(method.getValue());
            while (matcher.find()) {
                Check.same("rule 12, new " + matcher.group(1) + " in " + method.getKey(), isConstructor, true);
            }
        }
        int made = found("(?<!throw )\\bnew\\b").size();
        int madeInMethods = 0;
        for (String body : bodies.values()) {
            madeInMethods += body.split("(?<!throw )\\bnew\\b", -1).length - 1;
        }
        Check.same("rule 12, new outside of methods", made - madeInMethods, 0);
    }
}
