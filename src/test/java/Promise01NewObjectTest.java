/** Promise 1, the constructor. */
public final class Promise01NewObjectTest {
    public static void main(String[] args) {
        Sentences all = new Sentences("Promise 1, the constructor");
        all.holds("an empty line, for each call that uses one", Promise01NewObjectTest::emptyLine);
        all.holds("an empty line: it has room for 1024 bytes, and no more", Promise01NewObjectTest::wholeRoom);
        all.holds("no names: none is known in any way", Promise01NewObjectTest::noNames);
        all.holds("no names: the first place is 0", Promise01NewObjectTest::firstPlace);
        all.holds("no read, no expression and no line yet", Promise01NewObjectTest::nothingLatest);
        all.holds("another object's line and names are its own", Promise01NewObjectTest::twoObjects);
        all.end();
    }

    private static void emptyLine(Checks checks) {
        checks.due("read", new Desk().read(""), "fault 2");
        checks.due("read of products", new Desk().read("", true), "fault 2");
        checks.due("bar", new Desk().bar(""), false);
        checks.due("place", new Desk().place(""), -1);
        checks.due("constant", new Desk().constant("", 1), false);
        checks.due("read of what is typed first", new Desk().read("7"), "constant 7");
        Desk desk = new Desk();
        desk.read("7");
        checks.due("the first token begins at", desk.token(0, 1), 0);
    }

    private static void wholeRoom(Checks checks) {
        Desk desk = new Desk();
        checks.due("1024 bytes", desk.type("1".repeat(1024)), true);
        checks.due("one more", desk.type('1', 1), false);
    }

    private static void noNames(Checks checks) {
        for (String name : new String[] {"a", "r", "_", ".", "n".repeat(63), "start", "rax", "x0"}) {
            checks.due("read of " + Checks.shown(name), new Desk().read(name), "fault 3");
            checks.due("bar of " + Checks.shown(name), new Desk().bar(name), true);
            checks.due("constant of " + Checks.shown(name), new Desk().constant(name, 1), true);
            checks.due("place of " + Checks.shown(name), new Desk().place(name), 0);
        }
    }

    private static void firstPlace(Checks checks) {
        Desk desk = new Desk();
        checks.due("the first name", desk.place("a"), 0);
        checks.due("the second name", desk.place("b"), 1);
    }

    private static void nothingLatest(Checks checks) {
        checks.due("fault", new Desk().fault(), 0);
        checks.due("value", new Desk().value(), 0);
        for (int which = -1; which <= 2; which++) {
            checks.due("side " + which, new Desk().side(which), -1);
        }
        for (int what = -1; what <= 4; what++) {
            checks.due("token 0, " + what, new Desk().token(0, what), -1);
        }
    }

    private static void twoObjects(Checks checks) {
        Desk first = new Desk();
        first.place("a");
        first.constant("c", 1);
        first.bar("r");
        first.read("8+");
        first.read("a+9");
        first.type("5");
        Desk second = new Desk();
        checks.due("value of the second", second.value(), 0);
        checks.due("side of the second", second.side(0), -1);
        checks.due("token of the second", second.token(0, 0), -1);
        checks.due("a's place", second.read("a"), "fault 3");
        checks.due("c's constant", second.read("c"), "fault 3");
        checks.due("r, barred in the first", second.read("r"), "fault 3");
        checks.due("the second's line", second.read("6"), "constant 6");
        checks.due("the first's line", first.read(""), "constant 5");
        checks.due("a in the first", first.read("a"), "place 0 + 0");
    }
}
