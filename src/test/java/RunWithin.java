import java.lang.reflect.InvocationTargetException;

/** Runs the main method of a class, and breaks it off as failed if it takes too long: a test that never ends fails. */
public final class RunWithin {
    private RunWithin() {
    }

    public static void main(String[] args) throws ReflectiveOperationException {
        String name = args[0];
        int seconds = Integer.parseInt(args[1]);
        Thread watch = new Thread(() -> breakOffBehind(seconds, name));
        watch.setDaemon(true);
        watch.start();
        try {
            Class.forName(name).getMethod("main", String[].class).invoke(null, (Object) new String[0]);
        } catch (InvocationTargetException e) {
            e.getCause().printStackTrace();
            System.exit(1);
        }
    }

    private static void breakOffBehind(int seconds, String name) {
        try {
            Thread.sleep(seconds * 1000L);
        } catch (InterruptedException e) {
            return;
        }
        System.out.println(name + " did not end within " + seconds + " seconds");
        System.out.flush();
        Runtime.getRuntime().halt(1);
    }
}
