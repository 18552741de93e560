import java.util.Arrays;

/** Runs the main method of a class and ends it if it takes too long, since no call may fail to end. */
public final class Limit {
    private static final long MILLISECONDS = 400_000;
    private static final int DID_NOT_END = 124;

    private Limit() {
    }

    public static void main(String[] args) throws ReflectiveOperationException {
        Thread guard = new Thread(() -> waitFor(args[0]));
        guard.setDaemon(true);
        guard.start();
        Object rest = Arrays.copyOfRange(args, 1, args.length);
        Class.forName(args[0]).getMethod("main", String[].class).invoke(null, rest);
    }

    private static void waitFor(String name) {
        try {
            Thread.sleep(MILLISECONDS);
        } catch (InterruptedException e) {
            System.out.println("the guard was woken");
        }
        System.out.println(name + " did not end");
        Runtime.getRuntime().halt(DID_NOT_END);
    }
}
