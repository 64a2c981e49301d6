import java.lang.reflect.InvocationTargetException;

/** Runs a test's main method, and ends it with code 3 when it takes more than so many seconds. */
public final class Watch {
    private Watch() { }

    public static void main(String[] args) throws Throwable {
        long seconds = Long.parseLong(args[0]);
        Thread watch = new Thread(() -> endLate(seconds, args[1]));
        watch.setDaemon(true);
        watch.start();
        try {
            Class.forName(args[1]).getMethod("main", String[].class).invoke(null, (Object) new String[0]);
        } catch (InvocationTargetException e) {
            throw e.getCause();
        }
    }

    private static void endLate(long seconds, String test) {
        try {
            Thread.sleep(1_000 * seconds);
        } catch (InterruptedException e) {
            return;
        }
        System.out.println(test + " didn't end within " + seconds + " seconds");
        Runtime.getRuntime().halt(3);
    }
}
