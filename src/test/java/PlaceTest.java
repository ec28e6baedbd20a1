/** Promise 4: the line's one name gets the next place. */
public final class PlaceTest {
    private static final Checks CHECKS = new Checks("place");

    public static void main(String[] args) {
        givesPlacesInOrder();
        wantsJustOneName();
        leavesOtherNamesAlone();
        givesAsManyAsCallsAllow();
        CHECKS.end();
    }

    private static void givesPlacesInOrder() {
        Desk desk = new Desk();
        CHECKS.due("a", desk.place("a"), 0);
        CHECKS.due("b", desk.place("\t b ; b"), 1);
        CHECKS.due("a again", desk.place("a"), 0);
        CHECKS.due("A", desk.place("A"), 2);
        CHECKS.due("aa", desk.place("aa"), 3);
        CHECKS.due("63 letters", desk.place("n".repeat(63)), 4);
        CHECKS.due("62 letters", desk.place("n".repeat(62)), 5);
        CHECKS.due("63 letters again", desk.place("n".repeat(63)), 4);
        CHECKS.due("an empty line behind it", desk.place(""), -1);
        CHECKS.due("read of b", desk.read("b"), "place 1 + 0");
    }

    private static void wantsJustOneName() {
        Desk desk = new Desk();
        for (String line : BarTest.NO_NAME) {
            CHECKS.due("place of " + line, desk.place(line), -1);
            CHECKS.due("line behind it", desk.read(""), "fault 2");
        }
        CHECKS.due("no place was given", desk.place("z"), 0);
    }

    private static void leavesOtherNamesAlone() {
        Desk desk = new Desk();
        desk.bar("r");
        desk.constant("c", 0);
        CHECKS.due("a barred name", desk.place("r"), -1);
        CHECKS.due("a constant", desk.place("c"), -1);
        CHECKS.due("no place was given", desk.place("z"), 0);
        CHECKS.due("c as it was", desk.read("c"), "constant 0");
        CHECKS.due("r as it was", desk.read("r"), "fault 2");
    }

    /** 512 calls: the most names there can be, and the longest. */
    private static void givesAsManyAsCallsAllow() {
        Desk most = new Desk();
        for (int i = 0; i < 256; i++) {
            CHECKS.due("name " + i, most.place("n" + i), i);
        }
        Desk longest = new Desk();
        String tail = "t".repeat(61);
        for (int i = 0; i < 56; i++) {
            CHECKS.due("long name " + i, longest.place((char) ('A' + i % 26) + "" + (char) ('a' + i / 26) + tail), i);
        }
    }
}
