/**
 * The tests of one section of the document: each holds the class to one sentence, or to one case
 * that the sentence names, and is reported by the section and the sentence's own words.
 */
final class Sentences {
    private static final long LONGEST_MILLISECONDS = 120_000;

    interface Test {
        void hold(Checks checks);
    }

    private final String section;
    private int tests = 0;
    private int broken = 0;

    Sentences(String section) {
        this.section = section;
        // A call that never ends is a fault as well, and must not keep the tests waiting for ever.
        Thread guard = new Thread(Sentences::endLate);
        guard.setDaemon(true);
        guard.start();
    }

    void holds(String words, Test test) {
        Checks checks = new Checks();
        try {
            test.hold(checks);
        } catch (RuntimeException | StackOverflowError e) {
            checks.broken(e);
        }
        tests++;
        broken += checks.hold() ? 0 : 1;
        System.out.println((checks.hold() ? "  holds   " : "  BROKEN  ") + section + " | " + words);
    }

    void end() {
        System.exit(tests == 0 || broken != 0 ? 1 : 0);
    }

    private static void endLate() {
        try {
            Thread.sleep(LONGEST_MILLISECONDS);
        } catch (InterruptedException e) {
            return;
        }
        System.out.println("  BROKEN  a call does not end");
        Runtime.getRuntime().halt(1);
    }
}
