import java.io.IOException;
import java.lang.reflect.InvocationTargetException;
import java.lang.reflect.Method;
import java.nio.file.Files;
import java.nio.file.Path;
import java.util.ArrayList;
import java.util.List;
import java.util.TreeSet;
import java.util.regex.Matcher;
import java.util.regex.Pattern;

/** What README.md says: its example answers what stands beside it, and its table has each test. */
public final class ReadmeTest {
    private static final Path README = Path.of("README.md");
    private static final Path TESTS = Path.of("src/test/java");
    /** A call, its arguments, and the answer ahead of the colon. */
    private static final Pattern CALL = Pattern.compile("finder\\.(\\w+)\\(([-\\d, ]*)\\); +// ([^:]+)(?:: .*)?");

    private ReadmeTest() {
    }

    public static void main(String[] args) throws IOException {
        List<String> readme = Files.readAllLines(README);
        example(readme);
        table(readme);
        Check.end();
    }

    private static void example(List<String> readme) {
        int from = readme.indexOf("```java") + 1;
        Check.same("README, the example's first line", readme.get(from), "Breakpoint finder = new Breakpoint();");
        Breakpoint finder = new Breakpoint();
        int calls = 0;
        for (int i = from + 1; i < readme.size() && !readme.get(i).equals("```"); i++) {
            Matcher call = CALL.matcher(readme.get(i));
            if (call.matches()) {
                calls++;
                Check.same("README, " + call.group(1) + "(" + call.group(2) + ")",
                        answer(finder, call.group(1), numbers(call.group(2))), call.group(3));
            } else {
                Check.same("README, a line of the example that is no call", readme.get(i), "");
            }
        }
        Check.same("README, the example has calls", calls > 0, true);
    }

    private static Object[] numbers(String arguments) {
        List<Object> numbers = new ArrayList<>();
        for (String argument : arguments.split(", *")) {
            if (!argument.isEmpty()) {
                numbers.add(Integer.valueOf(argument));
            }
        }
        return numbers.toArray();
    }

    private static String answer(Breakpoint finder, String name, Object[] arguments) {
        for (Method method : Breakpoint.class.getMethods()) {
            if (method.getName().equals(name) && method.getParameterCount() == arguments.length) {
                return answer(finder, method, arguments);
            }
        }
        return "no such call";
    }

    private static String answer(Breakpoint finder, Method method, Object[] arguments) {
        try {
            Object got = method.invoke(finder, arguments);
            return method.getReturnType() == void.class ? "nothing" : String.valueOf(got);
        } catch (InvocationTargetException e) {
            return e.getCause().getClass().getSimpleName();
        } catch (IllegalAccessException e) {
            return e.toString();
        }
    }

    private static void table(List<String> readme) throws IOException {
        TreeSet<String> told = new TreeSet<>();
        for (String line : readme) {
            Matcher row = Pattern.compile("\\| `(\\w+Test)` \\|.*").matcher(line);
            if (row.matches()) {
                told.add(row.group(1) + ".java");
            }
        }
        TreeSet<String> there = new TreeSet<>();
        try (var files = Files.list(TESTS)) {
            files.map(file -> file.getFileName().toString()).filter(name -> name.endsWith("Test.java"))
                    .forEach(there::add);
        }
        Check.same("README, the tests of its table", told.toString(), there.toString());
    }
}
