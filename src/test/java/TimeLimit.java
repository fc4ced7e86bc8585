/** Ends a test that takes far too long, for no call may fail to end. */
final class TimeLimit {
    private static final long MILLISECONDS = 300_000;

    private TimeLimit() {
    }

    static void start() {
        Thread watch = new Thread(() -> {
            try {
                Thread.sleep(MILLISECONDS);
            } catch (InterruptedException interrupted) {
                Thread.currentThread().interrupt();
            }
            System.out.println("a call does not end, or the test takes far too long");
            Runtime.getRuntime().halt(1);
        });
        watch.setDaemon(true);
        watch.start();
    }
}
