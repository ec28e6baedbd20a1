/** Promise 3, bar. */
public final class Promise03BarTest {
    public static void main(String[] args) {
        Sentences all = new Sentences("Promise 3, bar");
        all.holds("the line is just one NAME, which becomes BARRED: true", Promise03BarTest::bars);
        all.holds("false if the line is not just one NAME", Promise03BarTest::noName);
        all.holds("false if it is not, changing nothing", Promise03BarTest::noNameChangesNothing);
        all.holds("false if the name is known: BARRED", checks -> known(checks, "r"));
        all.holds("false if the name is known: a place", checks -> known(checks, "a"));
        all.holds("false if the name is known: a CONSTANT, of 0 too", checks -> known(checks, "five", "zero"));
        all.holds("false if the name is known, changing nothing", Promise03BarTest::knownChangesNothing);
        all.holds("the line is empty then, in any case", Promise03BarTest::emptyThen);
        all.holds("the line is empty then: also for place", Promise03BarTest::emptyBehindPlace);
        all.holds("the line is empty then: also for constant", Promise03BarTest::emptyBehindConstant);
        all.holds("the line is empty then: also for read, of each fault", Promise03BarTest::emptyBehindRead);
        all.end();
    }

    private static void bars(Checks checks) {
        Desk desk = new Desk();
        for (String name : new String[] {"rax", " b\t", "c ; a comment \u0001\u00ff", "_", ".", "d.9_Z", "x".repeat(63)}) {
            checks.due("read of " + Checks.shown(name) + " before", desk.read(name), "fault 3");
            checks.due("bar of " + Checks.shown(name), desk.bar(name), true);
            checks.due("read of " + Checks.shown(name), desk.read(name), "fault 2");
            checks.due("place of " + Checks.shown(name), desk.place(name), -1);
            checks.due("constant of " + Checks.shown(name), desk.constant(name, 1), false);
        }
        checks.due("a longer name", desk.read("raxx"), "fault 3");
        checks.due("a shorter name", desk.read("ra"), "fault 3");
        checks.due("a name in another case", desk.read("RAX"), "fault 3");
    }

    private static void noName(Checks checks) {
        for (String line : Lines.NO_NAME) {
            checks.due("bar of " + Checks.shown(line), new Desk().bar(line), false);
        }
    }

    private static void noNameChangesNothing(Checks checks) {
        for (String line : Lines.NO_NAME) {
            Desk desk = new Desk();
            desk.bar(line);
            checks.due("a behind bar of " + Checks.shown(line), desk.read("a"), "fault 3");
            checks.due("place of a behind it", desk.place("a"), 0);
            checks.due("constant of b behind it", desk.constant("b", 1), true);
        }
        latestStays(checks, "1 2");
    }

    private static void latestStays(Checks checks, String line) {
        Desk desk = Desk.withNames();
        desk.read("a-b+7");
        desk.read("1/0");
        checks.due("bar of " + Checks.shown(line), desk.bar(line), false);
        checks.due("fault", desk.fault(), 4);
        checks.due("value", desk.value(), 7);
        checks.due("side 0", desk.side(0), 0);
        checks.due("side 1", desk.side(1), 1);
        checks.due("the next place", desk.place("next"), 2);
    }

    private static void known(Checks checks, String... names) {
        for (String name : names) {
            Desk desk = Desk.withNames();
            checks.due("bar of " + name, desk.bar(name), false);
            checks.due("bar of " + name + " with blanks and a comment", desk.bar("\t" + name + " ;"), false);
        }
    }

    private static void knownChangesNothing(Checks checks) {
        Desk desk = Desk.withNames();
        for (String name : new String[] {"r", "a", "b", "five", "zero"}) {
            desk.bar(name);
        }
        checks.due("r as it was", desk.read("r"), "fault 2");
        checks.due("a as it was", desk.read("a"), "place 0 + 0");
        checks.due("b as it was", desk.place("b"), 1);
        checks.due("five as it was", desk.read("five"), "constant 5");
        checks.due("zero as it was", desk.read("zero"), "constant 0");
        latestStays(checks, "r");
        latestStays(checks, "a");
        latestStays(checks, "five");
    }

    /** What is typed behind the call is a whole line by itself, and begins at 0. */
    private static void emptyNow(Checks checks, String behind, Desk desk) {
        checks.due("bar behind " + behind, desk.bar(""), false);
        checks.due("place behind " + behind, desk.place(""), -1);
        checks.due("read behind " + behind, desk.read("8"), "constant 8");
        checks.due("begin of the token behind " + behind, desk.token(0, 1), 0);
    }

    private static void emptyThen(Checks checks) {
        for (String line : new String[] {"new", "r", "a", "five", "1", "a b", "@", "", "\"a", "n".repeat(64)}) {
            Desk desk = Desk.withNames();
            desk.bar(line);
            emptyNow(checks, "bar of " + Checks.shown(line), desk);
            desk.bar(line);
            checks.due("bar of a name behind bar of " + Checks.shown(line), desk.bar("q"), true);
        }
    }

    private static void emptyBehindPlace(Checks checks) {
        for (String line : new String[] {"new", "r", "a", "five", "1", "a b", "@", "", "\"a", "n".repeat(64)}) {
            Desk desk = Desk.withNames();
            desk.place(line);
            emptyNow(checks, "place of " + Checks.shown(line), desk);
        }
    }

    private static void emptyBehindConstant(Checks checks) {
        for (String line : new String[] {"new", "r", "a", "five", "1", "a b", "@", "", "\"a", "n".repeat(64)}) {
            Desk desk = Desk.withNames();
            desk.constant(line, 3);
            emptyNow(checks, "constant of " + Checks.shown(line), desk);
        }
    }

    private static void emptyBehindRead(Checks checks) {
        for (String line : new String[] {"1", "a", "a-b", "@", "1 @", "", "1 +", "r", "nope", "1/0", "a+b", "\"a"}) {
            for (boolean products : new boolean[] {false, true}) {
                Desk desk = Desk.withNames();
                desk.readKind(line, products);
                emptyNow(checks, "read of " + Checks.shown(line), desk);
            }
        }
    }
}
