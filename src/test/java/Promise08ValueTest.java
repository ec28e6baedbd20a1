/** Promise 8, value. */
public final class Promise08ValueTest {
    public static void main(String[] args) {
        Sentences all = new Sentences("Promise 8, value");
        all.holds("0 if there was none: a new object", Promise08ValueTest::noneYet);
        all.holds("0 if there was none: reads with a fault alone", Promise08ValueTest::faultsAlone);
        all.holds("the constant of a CONSTANT, a PLACE and a SPAN", Promise08ValueTest::constants);
        all.holds("the constant: the least and the greatest", Promise08ValueTest::extremes);
        all.holds("of the latest expression without a fault: the latest", Promise08ValueTest::latest);
        all.holds("of the latest expression without a fault: a fault leaves it", Promise08ValueTest::faultsLeaveIt);
        all.holds("of the latest expression: other calls leave it", Promise08ValueTest::othersLeaveIt);
        all.end();
    }

    private static void noneYet(Checks checks) {
        checks.due("value of a new object", new Desk().value(), 0);
        Desk desk = Desk.withNames();
        desk.constant("c", 77);
        desk.type("78");
        checks.due("value behind names", desk.value(), 0);
    }

    private static void faultsAlone(Checks checks) {
        Desk desk = Desk.withNames();
        for (String line : new String[] {"7 @", "7 8", "7+n", "7/0", "a+7+b", "-(a+7)", "7*(a-b)", "", "(7", "5%0"}) {
            desk.readKind(line, false);
            checks.due("value behind " + Checks.shown(line), desk.value(), 0);
        }
    }

    private static void constants(Checks checks) {
        String[][] due = {{"41+1", "42"}, {"a", "0"}, {"a+3", "3"}, {"a-3", "-3"}, {"$", "0"}, {"a-b", "0"}, {"a-b+9", "9"}, {"(a+1)-(b+5)", "-4"},
            {"five", "5"}, {"zero", "0"}};
        for (String[] row : due) {
            Desk desk = Desk.withNames();
            desk.readKind(row[0], false);
            checks.due("value of " + row[0], desk.value(), row[1]);
        }
    }

    private static void extremes(Checks checks) {
        Desk desk = Desk.withNames();
        desk.readKind("0x8000000000000000", false);
        checks.due("the least", desk.value(), Long.MIN_VALUE);
        desk.readKind("0x7fffffffffffffff", false);
        checks.due("the greatest", desk.value(), Long.MAX_VALUE);
        desk.readKind("18446744073709551615", false);
        checks.due("the greatest number", desk.value(), -1);
        desk.readKind("a+0x8000000000000000", false);
        checks.due("the least of a place", desk.value(), Long.MIN_VALUE);
        desk.readKind("a-b+0x7fffffffffffffff", false);
        checks.due("the greatest of a span", desk.value(), Long.MAX_VALUE);
    }

    private static void latest(Checks checks) {
        Desk desk = Desk.withNames();
        String[][] due = {{"3", "3"}, {"a+4", "4"}, {"b", "0"}, {"a-b+5", "5"}, {"a-b", "0"}, {"6", "6"}, {"0", "0"}};
        for (String[] row : due) {
            desk.readKind(row[0], false);
            checks.due("value of " + row[0], desk.value(), row[1]);
            checks.due("value of " + row[0] + " again", desk.value(), row[1]);
        }
    }

    private static void faultsLeaveIt(Checks checks) {
        Desk desk = Desk.withNames();
        desk.readKind("41+1", false);
        for (String line : new String[] {"7 @", "7 8", "7+n", "7/0", "", "a+7+b", "-(a+7)", "1+2+", "r"}) {
            desk.readKind(line, false);
            checks.due("value behind the fault of " + Checks.shown(line), desk.value(), 42);
        }
        desk.readKind("1+2", true);
        checks.due("value behind a sum that is to be products", desk.value(), 42);
    }

    private static void othersLeaveIt(Checks checks) {
        Desk desk = Desk.withNames();
        desk.readKind("42", false);
        desk.type("13");
        checks.due("value while a line is typed", desk.value(), 42);
        desk.bar("");
        desk.bar("q");
        desk.place("p");
        desk.constant("c", 99);
        desk.constant("1 2", 98);
        desk.side(0);
        desk.token(0, 3);
        checks.due("value behind other calls", desk.value(), 42);
    }
}
