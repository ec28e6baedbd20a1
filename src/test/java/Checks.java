/** Counts the answers that are not as due, and ends a test with exit code 1 if there was one. */
final class Checks {
    private final String title;
    private int made = 0;
    private int wrong = 0;

    Checks(String title) {
        this.title = title;
    }

    void due(String call, Object got, Object want) {
        made++;
        if (!String.valueOf(got).equals(String.valueOf(want))) {
            wrong++;
            System.out.println(title + ": " + call + " answered " + got + ", due is " + want);
        }
    }

    void end() {
        if (made == 0 || wrong != 0) {
            System.out.println(title + ": " + wrong + " of " + made + " answers are not as due");
            System.exit(1);
        }
    }
}
