import java.lang.reflect.InvocationTargetException;
import java.lang.reflect.Method;
import java.lang.reflect.Modifier;
import java.util.Arrays;
import java.util.Comparator;

/** Runs every static method without parameters of the test classes; each of them is one test. */
public final class AllTests {
    static final Class<?>[] TESTS = {
        DeedTests.class, ShapeTests.class, RiverTests.class, FenceTests.class, OrderTests.class, FactTests.class,
        MapTests.class, ForecastTests.class, RangeTests.class, StateTests.class, PairTests.class,
        RandomRunTests.class, LanguageTests.class, ReadmeTests.class,
    };

    public static void main(String[] args) {
        int passed = 0;
        int failed = 0;
        for (Class<?> tests : TESTS) {
            Method[] methods = tests.getDeclaredMethods();
            Arrays.sort(methods, Comparator.comparing(Method::getName));
            for (Method test : methods) {
                if (!isTest(test)) {
                    continue;
                }
                if (passes(test)) {
                    passed++;
                } else {
                    failed++;
                }
            }
        }
        System.out.println("project: " + passed + " passed, " + failed + " failed");
        System.exit(failed == 0 ? 0 : 1);
    }

    private static boolean isTest(Method method) {
        return Modifier.isStatic(method.getModifiers()) && !Modifier.isPrivate(method.getModifiers())
            && !method.isSynthetic() && method.getParameterCount() == 0;
    }

    private static boolean passes(Method test) {
        try {
            test.setAccessible(true);
            test.invoke(null);
            return true;
        } catch (InvocationTargetException e) {
            System.out.println("failed: " + test.getDeclaringClass().getName() + "." + test.getName()
                + ": " + e.getCause());
            return false;
        } catch (IllegalAccessException e) {
            System.out.println("failed: " + test + ": " + e);
            return false;
        }
    }
}
