/** Promise 5, constant. */
public final class Promise05ConstantTest {
    public static void main(String[] args) {
        Sentences all = new Sentences("Promise 5, constant");
        all.holds("the line is just one NAME, which becomes a CONSTANT: true", Promise05ConstantTest::becomes);
        all.holds("a CONSTANT of the least, the greatest and other longs", Promise05ConstantTest::allWorths);
        all.holds("false if it is no such line", Promise05ConstantTest::noName);
        all.holds("false if it is no such line: nothing is known then", Promise05ConstantTest::nothingKnown);
        all.holds("false if the name is known: BARRED", checks -> known(checks, "r", "fault 2"));
        all.holds("false if the name is known: a place", checks -> known(checks, "a", "place 0 + 0"));
        all.holds("false if the name is known: a CONSTANT", checks -> known(checks, "five", "constant 5"));
        all.holds("false if the name is known: a CONSTANT of 0", checks -> known(checks, "zero", "constant 0"));
        all.end();
    }

    private static void becomes(Checks checks) {
        Desk desk = new Desk();
        for (String name : new String[] {"c", " d\t", "e ; \u00ff", "_", ".", "C", "cc", "x".repeat(63)}) {
            checks.due("constant of " + Checks.shown(name), desk.constant(name, 7), true);
            checks.due("read of " + Checks.shown(name), desk.read(name), "constant 7");
        }
        checks.due("it takes no place", desk.place("p"), 0);
        checks.due("it can't be barred", desk.bar("c"), false);
    }

    private static void allWorths(Checks checks) {
        long[] worths = {0, 1, -1, -2, Long.MIN_VALUE, Long.MAX_VALUE, 0x123456789abcdefL, 1L << 32, 1L << 31, Integer.MIN_VALUE};
        Desk desk = new Desk();
        for (int i = 0; i < worths.length; i++) {
            checks.due("constant of " + worths[i], desk.constant("c" + i, worths[i]), true);
        }
        for (int i = 0; i < worths.length; i++) {
            checks.due("read of " + worths[i], desk.read("c" + i), "constant " + worths[i]);
            checks.due("read of one more than " + worths[i], desk.read("c" + i + "+1"), "constant " + (worths[i] + 1));
        }
    }

    private static void noName(Checks checks) {
        for (String line : Lines.NO_NAME) {
            checks.due("constant of " + Checks.shown(line), new Desk().constant(line, 3), false);
            checks.due("constant of " + Checks.shown(line) + " with names known", Desk.withNames().constant(line, 3), false);
        }
    }

    private static void nothingKnown(Checks checks) {
        for (String line : Lines.NO_NAME) {
            Desk desk = new Desk();
            desk.constant(line, 3);
            checks.due("a behind constant of " + Checks.shown(line), desk.read("a"), "fault 3");
            checks.due("b behind it", desk.read("b"), "fault 3");
            checks.due("the first place behind it", desk.place("a"), 0);
        }
    }

    private static void known(Checks checks, String name, String asItWas) {
        for (long worth : new long[] {5, 0, 9, -1}) {
            Desk desk = Desk.withNames();
            checks.due("constant of " + name, desk.constant(name, worth), false);
            checks.due("constant of " + name + " again", desk.constant(" " + name + ";", worth), false);
            checks.due("read of " + name, desk.read(name), asItWas);
            checks.due("the next place", desk.place("next"), 2);
        }
    }
}
