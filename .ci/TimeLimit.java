import java.lang.reflect.InvocationTargetException;
import java.lang.reflect.Method;

/**
 * Runs one test in a time limit: java TimeLimit SECONDS TEST. A call that never ends (rule 7 of
 * LANGUAGE.md) then fails the test and is shown by name, instead of holding up .ci/run for good.
 */
public final class TimeLimit {
    private static volatile boolean passed = false;

    public static void main(String[] args) throws ReflectiveOperationException, InterruptedException {
        Method test = Class.forName(args[1]).getDeclaredMethod("main", String[].class);
        test.setAccessible(true);
        Thread run = new Thread(() -> runTest(test));
        run.start();
        run.join(Long.parseLong(args[0]) * 1000);
        if (run.isAlive()) {
            System.out.println("no end after " + args[0] + " seconds, in:");
            for (StackTraceElement place : run.getStackTrace()) {
                System.out.println("  " + place);
            }
            Runtime.getRuntime().halt(1);
        }
        System.exit(passed ? 0 : 1);
    }

    private static void runTest(Method test) {
        try {
            test.invoke(null, (Object) new String[0]);
            passed = true;
        } catch (InvocationTargetException thrown) {
            thrown.getCause().printStackTrace();
        } catch (IllegalAccessException refused) {
            refused.printStackTrace();
        }
    }
}
