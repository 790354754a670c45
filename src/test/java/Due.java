/** Counts the answers that are not as due, and ends a test with the exit code that tells of them. */
final class Due {
    // No test needs a tenth of it: a call that fails to end must not keep the others waiting for ever.
    private static final long MOST_MILLIS = 300_000L;

    private int wrong = 0;
    private int asked = 0;

    Due() {
        Thread watch = new Thread(Due::endLate);
        watch.setDaemon(true);
        watch.start();
    }

    private static void endLate() {
        try {
            Thread.sleep(MOST_MILLIS);
        } catch (InterruptedException early) {
            return;
        }
        System.out.println("some call has not ended");
        Runtime.getRuntime().halt(1);
    }

    void is(String call, long got, long want) {
        asked++;
        if (got != want) {
            wrong++;
            // A broken program may be wrong everywhere: the first rows tell enough.
            if (wrong <= 40) {
                System.out.println(call + " answered " + got + ", due is " + want);
            }
        }
    }

    void is(String call, boolean got, boolean want) {
        is(call, got ? 1L : 0L, want ? 1L : 0L);
    }

    void end(String name) {
        System.out.println(name + ": " + asked + " answers, " + wrong + " not as due");
        if (wrong != 0 || asked == 0) {
            System.exit(1);
        }
    }
}
