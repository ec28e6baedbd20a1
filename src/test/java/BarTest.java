/** Promise 3: the line's one name becomes barred. */
public final class BarTest {
    private static final Checks CHECKS = new Checks("bar");

    /** Lines that are not just one name, for all calls that want one. */
    static final String[] NO_NAME = {"", " ", "; a", "5", "'a'", "\"a\"", "$", "+", "a b", "a,", "-a", "(a)", "a @",
        "@ a", "5a", "a\"", "a'", "a\u0001", "a\u0080", "a\n", "a" + "b".repeat(63)};

    public static void main(String[] args) {
        barsNames();
        wantsJustOneName();
        wantsAnUnknownName();
        CHECKS.end();
    }

    private static void barsNames() {
        Desk desk = new Desk();
        for (String name : new String[] {"rax", " a\t", "b ; a comment \u0001\u00ff", "_", ".", "c.9_Z", "x".repeat(63)}) {
            CHECKS.due("bar of " + name, desk.bar(name), true);
            CHECKS.due("line behind it", desk.read(""), "fault 2");
            CHECKS.due("read of " + name, desk.read(name), "fault 2");
        }
        CHECKS.due("a longer name", desk.read("raxx"), "fault 3");
        CHECKS.due("a shorter name", desk.read("ra"), "fault 3");
        CHECKS.due("a name in another case", desk.read("RAX"), "fault 3");
    }

    private static void wantsJustOneName() {
        Desk desk = new Desk();
        for (String line : NO_NAME) {
            CHECKS.due("bar of " + line, desk.bar(line), false);
            CHECKS.due("line behind it", desk.bar(""), false);
        }
        CHECKS.due("nothing is barred", desk.read("a"), "fault 3");
        CHECKS.due("nor known", desk.place("a"), 0);
    }

    private static void wantsAnUnknownName() {
        Desk desk = new Desk();
        desk.place("p");
        desk.constant("c", 9);
        desk.bar("r");
        for (String name : new String[] {"p", "c", "r"}) {
            CHECKS.due("bar of " + name, desk.bar(name), false);
            CHECKS.due("line behind it", desk.place(""), -1);
        }
        CHECKS.due("p as it was", desk.read("p"), "place 0 + 0");
        CHECKS.due("c as it was", desk.read("c"), "constant 9");
        CHECKS.due("r as it was", desk.read("r"), "fault 2");
    }
}
