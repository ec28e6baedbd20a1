/** Promise 9: the place of the latest expression without a fault, and that which is taken off. */
public final class SideTest {
    private static final Checks CHECKS = new Checks("side");

    public static void main(String[] args) {
        Desk desk = new Desk();
        desk.place("a");
        desk.place("b");
        sides(desk, "", -1, -1);
        sides(desk, "5", -1, -1);
        sides(desk, "b", 1, -1);
        sides(desk, "b @", 1, -1);
        sides(desk, "a+", 1, -1);
        sides(desk, "a+n", 1, -1);
        sides(desk, "a+a", 1, -1);
        sides(desk, "a-b+3", 0, 1);
        sides(desk, "1/0", 0, 1);
        sides(desk, "$", -2, -1);
        sides(desk, "b-$", 1, -2);
        sides(desk, "$-$", -2, -2);
        desk.type("a");
        CHECKS.due("while a line is typed", desk.reader.side(1), -2);
        desk.place("");
        CHECKS.due("behind place", desk.reader.side(1), -2);
        sides(desk, "1+2", -1, -1);
        CHECKS.end();
    }

    private static void sides(Desk desk, String line, int due, int dueTakenOff) {
        desk.read(line);
        CHECKS.due("side(0) behind " + line, desk.reader.side(0), due);
        CHECKS.due("side(1) behind " + line, desk.reader.side(1), dueTakenOff);
        for (int which : new int[] {-1, 2, 3, Integer.MIN_VALUE, Integer.MAX_VALUE}) {
            CHECKS.due("side(" + which + ") behind " + line, desk.reader.side(which), -1);
        }
    }
}
