/** Counts the answers of one test that are not as due, and prints the first of them. */
final class Checks {
    private static final int PRINTED = 5;
    private static final int SHOWN = 60;

    private int made = 0;
    private int wrong = 0;

    void due(String call, Object got, Object want) {
        made++;
        if (!String.valueOf(got).equals(String.valueOf(want))) {
            tell(call + " answered " + got + ", due is " + want);
        }
    }

    void broken(Throwable thrown) {
        tell("it was broken off by " + thrown);
    }

    /** A test that made no check shows nothing, so it does not hold either. */
    boolean hold() {
        return made > 0 && wrong == 0;
    }

    /** A line with its unprintable bytes written as numbers, and cut short. */
    static String shown(String line) {
        StringBuilder all = new StringBuilder("[");
        for (int i = 0; i < line.length() && i < SHOWN; i++) {
            char c = line.charAt(i);
            all.append(c >= 32 && c <= 126 ? String.valueOf(c) : "<" + (int) c + ">");
        }
        return all.append(line.length() > SHOWN ? ".. of " + line.length() + "]" : "]").toString();
    }

    private void tell(String text) {
        wrong++;
        if (wrong <= PRINTED) {
            System.out.println("    " + text);
        }
    }
}
