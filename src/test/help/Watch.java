/** A call that does not end must fail its test, not stop all tests. */
final class Watch {
    private static final long SECONDS = 240;

    private Watch() {
    }

    static void begin() {
        Thread watch = new Thread(Watch::stopAtTheEnd);
        watch.setDaemon(true);
        watch.start();
    }

    private static void stopAtTheEnd() {
        try {
            Thread.sleep(1000 * SECONDS);
        } catch (InterruptedException e) {
            return;
        }
        System.out.println("it does not end");
        Runtime.getRuntime().halt(1);
    }
}
