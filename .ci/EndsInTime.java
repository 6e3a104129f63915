import java.lang.reflect.InvocationTargetException;
import java.lang.reflect.Method;

// Runs the main method of a test, and ends with exit code 124 if it has not ended in time.
final class EndsInTime {
    private static final int NOT_IN_TIME = 124;

    private static void haltAfter(String test, int seconds) {
        try {
            Thread.sleep(1000L * seconds);
        } catch (InterruptedException interrupted) {
            return;
        }
        System.out.println(test + " has not ended within " + seconds + " seconds");
        // Not exit, which waits for other threads.
        Runtime.getRuntime().halt(NOT_IN_TIME);
    }

    public static void main(String[] args) throws Throwable {
        String test = args[0];
        int seconds = Integer.parseInt(args[1]);
        Thread watch = new Thread(() -> haltAfter(test, seconds));
        watch.setDaemon(true);
        watch.start();
        Method main = Class.forName(test).getDeclaredMethod("main", String[].class);
        main.setAccessible(true);
        try {
            main.invoke(null, (Object) new String[0]);
        } catch (InvocationTargetException thrown) {
            throw thrown.getCause();
        }
    }
}
