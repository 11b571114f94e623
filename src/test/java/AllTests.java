import java.lang.reflect.InvocationTargetException;
import java.lang.reflect.Method;
import java.util.Arrays;
import java.util.Comparator;
import java.util.List;

/** Runs every static method without parameters of the test classes as a test of its own. */
public final class AllTests {
    private static final Class<?>[] TESTS = {
        FaceTests.class, ExampleTests.class, TextTests.class, StoreTests.class, ClockTests.class,
        RunningTests.class, TimingTests.class, DescriptionEdgeTests.class, InstructionEdgeTests.class,
        ProgramTextEdgeTests.class, PromiseEdgeTests.class, RefusalTests.class, RandomTests.class,
        ReadmeTests.class,
    };

    private static int passed;
    private static int failed;

    private AllTests() {
    }

    public static void main(String[] args) {
        if (args.length > 0) {
            FaceTests.sourceFile = args[0];
        }
        for (Class<?> tests : TESTS) {
            Method[] methods = tests.getDeclaredMethods();
            Arrays.sort(methods, Comparator.comparing(Method::getName));
            for (Method method : methods) {
                if (method.isAnnotationPresent(Test.class)) {
                    runOne(tests, method);
                }
            }
        }
        System.out.println("project: " + passed + " passed, " + failed + " failed");
        System.exit(failed == 0 ? 0 : 1);
    }

    static Class<?>[] classes() {
        return TESTS.clone();
    }

    private static void runOne(Class<?> tests, Method method) {
        try {
            method.invoke(null);
        } catch (InvocationTargetException e) {
            Check.fault("threw " + e.getCause());
        } catch (IllegalAccessException e) {
            Check.fault("can't be called");
        }
        List<String> faults = Check.takeFaults();
        if (faults.isEmpty()) {
            passed++;
            return;
        }
        failed++;
        System.out.println("FAILED: " + tests.getName() + "." + method.getName());
        for (String fault : faults.subList(0, Math.min(20, faults.size()))) {
            System.out.println("  " + fault);
        }
    }
}
