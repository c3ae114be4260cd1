/** Ends the program with exit code 1 if it is not stopped in time, so that a call that does not end fails its test. */
final class Clock {
    private final Thread watch;

    Clock(String what, int seconds) {
        watch = new Thread(() -> waitFor(what, seconds));
        watch.setDaemon(true);
        watch.start();
    }

    private static void waitFor(String what, int seconds) {
        try {
            Thread.sleep(seconds * 1000L);
        } catch (InterruptedException stopped) {
            return;
        }
        System.out.println(what + ": not at its end after " + seconds + " seconds");
        System.out.flush();
        Runtime.getRuntime().halt(1);
    }

    void stop() {
        watch.interrupt();
    }
}
