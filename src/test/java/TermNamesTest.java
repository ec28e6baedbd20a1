/** The document's term NAMES. */
public final class TermNamesTest {
    public static void main(String[] args) {
        Sentences all = new Sentences("Terms, NAMES");
        all.holds("letters, digits, _ and . : what a name may go on with, of all bytes", TermNamesTest::laterBytes);
        all.holds("not beginning with a digit: what a name may begin with, of all bytes", TermNamesTest::firstBytes);
        all.holds("at most 63 long: up to 63 it is a name, for each call", TermNamesTest::longEnough);
        all.holds("at most 63 long: from 64 it is none, for each call", TermNamesTest::tooLong);
        all.holds("no letter, digit, _ or . stands directly behind a NAME", TermNamesTest::notCutInTwo);
        all.holds("names that differ in length, in order or in case are not the same", TermNamesTest::differ);
        all.holds("names of 63 that differ in one byte, wherever it is, are not the same", TermNamesTest::differInOneByte);
        all.end();
    }

    private static void laterBytes(Checks checks) {
        for (char c = 0; c < Lines.BYTES; c++) {
            Desk desk = new Desk();
            String line = "n" + c;
            boolean longer = Lines.isOneOf(Lines.OF_NAMES, c);
            boolean alone = longer || Lines.isOneOf(Lines.BLANKS, c) || c == ';';
            checks.due("place of " + Checks.shown(line), desk.place(line), alone ? 0 : -1);
            checks.due("kind of the token in " + Checks.shown(line), desk.token(0, 0), 1);
            checks.due("end of the token in " + Checks.shown(line), desk.token(0, 2), longer ? 2 : 1);
            checks.due("n behind " + Checks.shown(line), desk.read("n"), alone && !longer ? "place 0 + 0" : "fault 3");
        }
    }

    private static void firstBytes(Checks checks) {
        for (char c = 0; c < Lines.BYTES; c++) {
            boolean digit = Lines.isOneOf(Lines.DIGITS, c);
            boolean name = Lines.isOneOf(Lines.OF_NAMES, c) && !digit;
            Desk desk = new Desk();
            checks.due("place of " + Checks.shown("" + c), desk.place("" + c), name ? 0 : -1);
            checks.due("a token of " + Checks.shown("" + c), desk.token(0, 0) == 1, name);
            boolean behind = name || Lines.isOneOf(Lines.BLANKS, c);
            checks.due("place of " + Checks.shown(c + "n"), desk.place(c + "n"), name ? 1 : behind ? 0 : -1);
            if (digit) {
                checks.due("tokens of " + c + "n", desk.tokens(), "");
            }
        }
    }

    private static void longEnough(Checks checks) {
        for (int length : new int[] {1, 2, 8, 31, 32, 61, 62, 63}) {
            String name = "n" + "9".repeat(length - 1);
            checks.due("bar of " + length, new Desk().bar(name), true);
            checks.due("constant of " + length, new Desk().constant(name, 3), true);
            Desk desk = new Desk();
            checks.due("read of " + length + ", not known", desk.read(name), "fault 3");
            checks.due("place of " + length, desk.place(name), 0);
            checks.due("token of " + length, desk.tokens(), "1:0-" + length + ":0");
            checks.due("read of " + length, desk.read("1+" + name + "+1"), "place 0 + 2");
        }
    }

    private static void tooLong(Checks checks) {
        for (int length : new int[] {64, 65, 70, 126, 127, 128, 255, 256, 257, 319, 1023, 1024}) {
            String name = "n".repeat(length);
            checks.due("bar of " + length, new Desk().bar(name), false);
            checks.due("place of " + length, new Desk().place(name), -1);
            checks.due("constant of " + length, new Desk().constant(name, 3), false);
            Desk desk = new Desk();
            checks.due("read of " + length, desk.read(name), "fault 1");
            checks.due("tokens of " + length, desk.tokens(), "");
        }
        Desk desk = new Desk();
        desk.place("n".repeat(64));
        checks.due("the first 63 of 64 are not known", desk.read("n".repeat(63)), "fault 3");
        checks.due("no place was given", desk.place("m"), 0);
    }

    private static void notCutInTwo(Checks checks) {
        for (char c = 0; c < Lines.BYTES; c++) {
            if (Lines.isOneOf(Lines.OF_NAMES, c)) {
                Desk desk = new Desk();
                desk.read("+" + "n".repeat(63) + c);
                checks.due("tokens of 63 letters and " + c, desk.tokens(), "4:0-1:43");
            }
        }
        for (String behind : new String[] {"+", "'a'", "\"a\"", "$", " a", "<<", "@", "\u00ff"}) {
            Desk desk = new Desk();
            desk.read("n".repeat(63) + behind);
            checks.due("token of 63 letters and " + Checks.shown(behind), desk.token(0, 2), 63);
        }
    }

    private static void differ(Checks checks) {
        String stem = "n".repeat(62);
        String[] names = {"a", "A", "aa", "aA", "ab", "ba", "a.", "a_", "_a", ".a", "a1", "a2", "a.1",
            "_", ".", "__", "..", "._", "_.", "Aa", "BB", "AaBB", "BBAa",
            stem, stem + "n", stem + "m", stem + "N", "m" + stem};
        Desk desk = new Desk();
        for (int i = 0; i < names.length; i++) {
            checks.due("place of " + Checks.shown(names[i]), desk.place(names[i]), i);
        }
        for (int i = 0; i < names.length; i++) {
            checks.due("place of " + Checks.shown(names[i]) + " again", desk.place(names[i]), i);
        }
    }

    private static void differInOneByte(Checks checks) {
        String name = "n".repeat(63);
        for (int i = 0; i < 63; i++) {
            String other = name.substring(0, i) + "m" + name.substring(i + 1);
            Desk desk = new Desk();
            desk.place(name);
            checks.due("read of a name with another byte at " + i, desk.read(other), "fault 3");
            checks.due("place of it", desk.place(other), 1);
            checks.due("place of the first", desk.place(name), 0);
        }
    }
}
