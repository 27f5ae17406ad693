import java.io.IOException;
import java.lang.reflect.InvocationTargetException;
import java.lang.reflect.Method;
import java.lang.reflect.Modifier;
import java.nio.file.Files;
import java.nio.file.Path;
import java.util.ArrayList;
import java.util.List;
import java.util.Set;
import java.util.TreeSet;
import java.util.regex.Matcher;
import java.util.regex.Pattern;

/** The example of README.md is one program: each of its calls is made here, and answers what stands behind it. */
final class ReadmeTests {
    private static final String FIRST_LINE = "Cornerdeed county = new Cornerdeed();";
    private static final Pattern CALL = Pattern.compile("county\\.(\\w+)\\(([^()]*)\\);\\s+// ([^:]+)(: .+)?");

    private ReadmeTests() {
    }

    static void theExampleAnswersWhatItTells() throws IOException, ReflectiveOperationException {
        List<String> lines = exampleLines();
        Check.same("the first line", lines.get(0), FIRST_LINE);
        Check.same("it is short enough for one object", lines.size() - 1 <= County.MAX_CALLS, true);
        Cornerdeed county = new Cornerdeed();
        for (String line : lines.subList(1, lines.size())) {
            Matcher call = matched(line);
            Check.same(line, answer(county, call.group(1), call.group(2)), call.group(3));
        }
    }

    static void theExampleHasEachCall() throws IOException {
        Set<String> due = new TreeSet<>();
        for (Method method : Cornerdeed.class.getDeclaredMethods()) {
            if (Modifier.isPublic(method.getModifiers())) {
                due.add(method.getName());
            }
        }
        Set<String> shown = new TreeSet<>();
        List<String> lines = exampleLines();
        for (String line : lines.subList(1, lines.size())) {
            shown.add(matched(line).group(1));
        }
        Check.same("calls", shown, due);
    }

    static void eachTestClassIsNamed() throws IOException {
        String text = Files.readString(Path.of("README.md"));
        Check.same("how the tests are run", text.contains("\n    .ci/run\n"), true);
        for (Class<?> tests : AllTests.TESTS) {
            Check.same(tests.getName(), text.contains("`" + tests.getName() + "`"), true);
        }
    }

    private static List<String> exampleLines() throws IOException {
        List<String> found = new ArrayList<>();
        boolean isIn = false;
        for (String line : Files.readAllLines(Path.of("README.md"))) {
            if (line.startsWith("```")) {
                isIn = line.equals("```java");
            } else if (isIn && !line.isBlank()) {
                found.add(line);
            }
        }
        return found;
    }

    private static Matcher matched(String line) {
        Matcher call = CALL.matcher(line);
        Check.same("a call and its answer: " + line, call.matches(), true);
        return call;
    }

    private static String answer(Cornerdeed county, String name, String arguments) throws ReflectiveOperationException {
        Object[] values = values(arguments);
        Method method = Cornerdeed.class.getMethod(name, types(values));
        try {
            Object got = method.invoke(county, values);
            return got instanceof String ? "\"" + got + "\"" : String.valueOf(got);
        } catch (InvocationTargetException e) {
            return "throws " + e.getCause().getClass().getSimpleName();
        }
    }

    private static Object[] values(String arguments) {
        String[] texts = arguments.isEmpty() ? new String[0] : arguments.split(", ");
        Object[] values = new Object[texts.length];
        for (int k = 0; k < texts.length; k++) {
            boolean isTruth = texts[k].equals("true") || texts[k].equals("false");
            values[k] = isTruth ? (Object) Boolean.valueOf(texts[k]) : (Object) Integer.valueOf(texts[k]);
        }
        return values;
    }

    private static Class<?>[] types(Object[] values) {
        Class<?>[] types = new Class<?>[values.length];
        for (int k = 0; k < values.length; k++) {
            types[k] = values[k] instanceof Boolean ? boolean.class : int.class;
        }
        return types;
    }
}
