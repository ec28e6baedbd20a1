/** Promise 1: an empty line; no names. */
public final class NewObjectTest {
    public static void main(String[] args) {
        Checks checks = new Checks("new object");
        ExpressionReader fresh = new ExpressionReader();
        checks.due("fault()", fresh.fault(), 0);
        checks.due("value()", fresh.value(), 0);
        checks.due("side(0)", fresh.side(0), -1);
        checks.due("side(1)", fresh.side(1), -1);
        for (int what = -1; what <= 4; what++) {
            checks.due("token(0, " + what + ")", fresh.token(0, what), -1);
        }
        checks.due("read of the new line", new Desk().read(""), "fault 2");
        checks.due("bar of the new line", new Desk().bar(""), false);
        checks.due("place of the new line", new Desk().place(""), -1);
        checks.due("constant of the new line", new Desk().constant("", 1), false);
        checks.due("an unknown name", new Desk().read("a"), "fault 3");
        checks.due("the first place", new Desk().place("a"), 0);

        Desk first = new Desk();
        first.place("a");
        first.type("5");
        Desk second = new Desk();
        checks.due("a name of another object", second.read("a"), "fault 3");
        checks.due("a line of another object", second.read("6"), "constant 6");
        checks.due("the first object's line", first.read(""), "constant 5");
        checks.end();
    }
}
