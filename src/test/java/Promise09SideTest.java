/** Promise 9, side. */
public final class Promise09SideTest {
    public static void main(String[] args) {
        Sentences all = new Sentences("Promise 9, side");
        all.holds("its place (which 0)", Promise09SideTest::places);
        all.holds("that which is taken off (1)", Promise09SideTest::takenOff);
        all.holds("-1 if it has none: a CONSTANT has neither", Promise09SideTest::ofConstants);
        all.holds("-1 if it has none: nothing is taken off a PLACE", Promise09SideTest::ofPlaces);
        all.holds("-1 if it has none: there was no expression without a fault", Promise09SideTest::noneYet);
        all.holds("-1 for another which", Promise09SideTest::otherWhich);
        all.holds("of the latest expression without a fault: a fault leaves it", Promise09SideTest::faultsLeaveIt);
        all.holds("of the latest expression: other calls leave it", Promise09SideTest::othersLeaveIt);
        all.end();
    }

    private static void sides(Checks checks, Desk desk, String line, int due, int dueTakenOff) {
        desk.readKind(line, false);
        checks.due("side 0 of " + Checks.shown(line), desk.side(0), due);
        checks.due("side 1 of " + Checks.shown(line), desk.side(1), dueTakenOff);
    }

    private static void places(Checks checks) {
        sides(checks, Desk.withNames(), "a", 0, -1);
        sides(checks, Desk.withNames(), "b", 1, -1);
        sides(checks, Desk.withNames(), "$", -2, -1);
        sides(checks, Desk.withNames(), "4+b", 1, -1);
        sides(checks, Desk.withNames(), "a-4", 0, -1);
    }

    private static void takenOff(Checks checks) {
        sides(checks, Desk.withNames(), "a-b", 0, 1);
        sides(checks, Desk.withNames(), "b-a", 1, 0);
        sides(checks, Desk.withNames(), "a-a", 0, 0);
        sides(checks, Desk.withNames(), "$-a", -2, 0);
        sides(checks, Desk.withNames(), "b-$", 1, -2);
        sides(checks, Desk.withNames(), "$-$", -2, -2);
        sides(checks, Desk.withNames(), "7+(a-b)-1", 0, 1);
    }

    private static void ofConstants(Checks checks) {
        Desk desk = Desk.withNames();
        sides(checks, desk, "5", -1, -1);
        sides(checks, desk, "five", -1, -1);
        sides(checks, desk, "a-b", 0, 1);
        sides(checks, desk, "zero", -1, -1);
        sides(checks, desk, "$", -2, -1);
        sides(checks, desk, "1+2", -1, -1);
    }

    private static void ofPlaces(Checks checks) {
        Desk desk = Desk.withNames();
        sides(checks, desk, "a-b", 0, 1);
        sides(checks, desk, "b", 1, -1);
        sides(checks, desk, "$-a", -2, 0);
        sides(checks, desk, "$", -2, -1);
    }

    private static void noneYet(Checks checks) {
        checks.due("side 0 of a new object", new Desk().side(0), -1);
        checks.due("side 1 of a new object", new Desk().side(1), -1);
        Desk desk = Desk.withNames();
        for (String line : new String[] {"", "a @", "a b", "a-b)", "a-n", "a-b-a", "a*1", "-a", "a+b"}) {
            sides(checks, desk, line, -1, -1);
        }
    }

    private static void otherWhich(Checks checks) {
        for (String line : new String[] {"", "5", "b", "b-a", "$-$"}) {
            Desk desk = Desk.withNames();
            desk.readKind(line, false);
            for (int which : new int[] {-1, 2, 3, -2, 256, 257, 65536, Integer.MIN_VALUE, Integer.MIN_VALUE + 1, Integer.MAX_VALUE}) {
                checks.due("side " + which + " of " + Checks.shown(line), desk.side(which), -1);
            }
        }
    }

    private static void faultsLeaveIt(Checks checks) {
        Desk desk = Desk.withNames();
        sides(checks, desk, "b-$+3", 1, -2);
        for (String line : new String[] {"a @", "a b", "a+", "a-n", "a-b-a", "a+b", "1/0", "", "r"}) {
            sides(checks, desk, line, 1, -2);
        }
        desk.readKind("a-b", true);
        sides(checks, desk, "", 1, -2);
    }

    private static void othersLeaveIt(Checks checks) {
        Desk desk = Desk.withNames();
        desk.readKind("a-b", false);
        desk.type("$");
        checks.due("side 0 while a line is typed", desk.side(0), 0);
        desk.place("");
        desk.place("p");
        desk.bar("q");
        desk.constant("c", 4);
        desk.value();
        desk.token(0, 0);
        checks.due("side 0 behind other calls", desk.side(0), 0);
        checks.due("side 1 behind other calls", desk.side(1), 1);
    }
}
