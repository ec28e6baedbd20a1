/** Promise 4, place. */
public final class Promise04PlaceTest {
    public static void main(String[] args) {
        Sentences all = new Sentences("Promise 4, place");
        all.holds("the line is just one NAME, which gets the next place: this", Promise04PlaceTest::nextPlaces);
        all.holds("that which it has, if it has one", Promise04PlaceTest::placeItHas);
        all.holds("that which it has: no place is lost by asking", Promise04PlaceTest::noneLost);
        all.holds("the next place: a name that was read is not known by that", Promise04PlaceTest::readBefore);
        all.holds("-1 if it is no such line", Promise04PlaceTest::noName);
        all.holds("-1 if it is no such line: no place is lost, nothing is known then", Promise04PlaceTest::noneLostByNoName);
        all.holds("-1 if the name is BARRED", Promise04PlaceTest::barred);
        all.holds("-1 if the name is a CONSTANT, of any worth", Promise04PlaceTest::constants);
        all.end();
    }

    private static void nextPlaces(Checks checks) {
        Desk desk = new Desk();
        String[] names = {"a", "\t b ; b", "A", "aa", "n".repeat(63), "n".repeat(62), "_", "."};
        for (int i = 0; i < names.length; i++) {
            checks.due("place of " + Checks.shown(names[i]), desk.place(names[i]), i);
        }
        for (int i = 0; i < names.length; i++) {
            checks.due("read of " + Checks.shown(names[i]), desk.read(names[i]), "place " + i + " + 0");
        }
    }

    private static void placeItHas(Checks checks) {
        Desk desk = Desk.withNames();
        for (int times = 0; times < 3; times++) {
            checks.due("place of a", desk.place("a"), 0);
            checks.due("place of b", desk.place(" b ;"), 1);
        }
        checks.due("place of c", desk.place("c"), 2);
        checks.due("place of c again", desk.place("c"), 2);
        checks.due("place of a still", desk.place("a"), 0);
    }

    private static void noneLost(Checks checks) {
        Desk desk = new Desk();
        desk.place("a");
        desk.place("a");
        desk.place("a");
        checks.due("the next place", desk.place("b"), 1);
        desk.read("a-b");
        checks.due("the next place behind a read", desk.place("c"), 2);
    }

    private static void readBefore(Checks checks) {
        Desk desk = new Desk();
        for (String line : new String[] {"n", "1+n", "n m", "n @", "n/0"}) {
            desk.read(line);
        }
        checks.due("place of n", desk.place("n"), 0);
        checks.due("read of n", desk.read("n+1"), "place 0 + 1");
        checks.due("constant of m", desk.constant("m", 4), true);
        checks.due("read of m", desk.read("m"), "constant 4");
    }

    private static void noName(Checks checks) {
        for (String line : Lines.NO_NAME) {
            checks.due("place of " + Checks.shown(line), new Desk().place(line), -1);
            checks.due("place of " + Checks.shown(line) + " with names known", Desk.withNames().place(line), -1);
        }
    }

    private static void noneLostByNoName(Checks checks) {
        for (String line : Lines.NO_NAME) {
            Desk desk = new Desk();
            desk.place(line);
            checks.due("a behind place of " + Checks.shown(line), desk.read("a"), "fault 3");
            checks.due("the first place behind it", desk.place("z"), 0);
        }
    }

    private static void barred(Checks checks) {
        Desk desk = new Desk();
        desk.bar("r");
        checks.due("place of r", desk.place("r"), -1);
        checks.due("place of r again", desk.place(" r"), -1);
        checks.due("r is barred still", desk.read("r"), "fault 2");
        checks.due("no place was lost", desk.place("z"), 0);
    }

    private static void constants(Checks checks) {
        for (long worth : new long[] {0, 1, -1, -2, 7, Long.MIN_VALUE, Long.MAX_VALUE}) {
            Desk desk = new Desk();
            desk.constant("c", worth);
            checks.due("place of a constant " + worth, desk.place("c"), -1);
            checks.due("it is a constant still", desk.read("c"), "constant " + worth);
            checks.due("no place was lost", desk.place("z"), 0);
        }
    }
}
