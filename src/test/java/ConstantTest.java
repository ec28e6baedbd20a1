/** Promise 5: the line's one name becomes a constant. */
public final class ConstantTest {
    private static final Checks CHECKS = new Checks("constant");

    public static void main(String[] args) {
        makesConstants();
        wantsJustOneName();
        wantsAnUnknownName();
        CHECKS.end();
    }

    private static void makesConstants() {
        Desk desk = new Desk();
        long[] worths = {0, 1, -1, Long.MIN_VALUE, Long.MAX_VALUE, 0x123456789abcdefL};
        for (int i = 0; i < worths.length; i++) {
            CHECKS.due("constant c" + i, desk.constant(" c" + i + "; comment", worths[i]), true);
            CHECKS.due("line behind it", desk.constant("", 1), false);
            CHECKS.due("read of c" + i, desk.read("c" + i), "constant " + worths[i]);
        }
        CHECKS.due("of all", desk.read("c0+c1*7-c2"), "constant 8");
        CHECKS.due("it takes no place", desk.place("p"), 0);
    }

    private static void wantsJustOneName() {
        Desk desk = new Desk();
        for (String line : BarTest.NO_NAME) {
            CHECKS.due("constant of " + line, desk.constant(line, 3), false);
            CHECKS.due("line behind it", desk.read(""), "fault 2");
        }
        CHECKS.due("nothing is known", desk.read("a"), "fault 3");
    }

    private static void wantsAnUnknownName() {
        Desk desk = new Desk();
        desk.place("p");
        desk.constant("c", 9);
        desk.bar("r");
        for (String name : new String[] {"p", "c", "r"}) {
            CHECKS.due("constant of " + name, desk.constant(name, 9), false);
            CHECKS.due("line behind it", desk.place(""), -1);
        }
        CHECKS.due("p as it was", desk.read("p"), "place 0 + 0");
        CHECKS.due("c as it was", desk.read("c"), "constant 9");
        CHECKS.due("r as it was", desk.read("r"), "fault 2");
    }
}
