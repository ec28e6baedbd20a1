/** The document's term SIGNS, and how tokens are taken. */
public final class TermSignsTest {
    public static void main(String[] args) {
        Sentences all = new Sentences("Terms, SIGNS");
        all.holds("which they are, of all bytes", TermSignsTest::ofOneByte);
        all.holds("<< >> are of two bytes, < and > alone are none", TermSignsTest::ofTwoBytes);
        all.holds("tokens are taken from the left, each as long as can be", TermSignsTest::asLongAsCanBe);
        all.holds("where no token can be is a fault", TermSignsTest::nowhere);
        all.end();
    }

    private static void cuts(Checks checks, String line, String due) {
        Desk desk = new Desk();
        desk.read(line);
        checks.due("tokens of " + Checks.shown(line), desk.tokens(), due);
    }

    private static void ofOneByte(Checks checks) {
        for (char c = 0; c < Lines.BYTES; c++) {
            if (!Lines.isOneOf(Lines.OF_NAMES, c)) {
                boolean sign = Lines.isOneOf(Lines.SIGNS_OF_ONE, c);
                cuts(checks, "" + c, sign ? "4:0-1:" + (int) c : "");
                cuts(checks, "a" + c, "1:0-1:0" + (sign ? " 4:1-2:" + (int) c : ""));
            }
        }
        for (char first : Lines.SIGNS_OF_ONE.toCharArray()) {
            for (char second : Lines.SIGNS_OF_ONE.toCharArray()) {
                cuts(checks, "" + first + second, "4:0-1:" + (int) first + " 4:1-2:" + (int) second);
            }
        }
    }

    private static void ofTwoBytes(Checks checks) {
        cuts(checks, "<<", "4:0-2:60");
        cuts(checks, ">>", "4:0-2:62");
        cuts(checks, "<<>>", "4:0-2:60 4:2-4:62");
        cuts(checks, ">><<", "4:0-2:62 4:2-4:60");
        for (String line : new String[] {"<", ">", "<>", "><", "< <", "> >", "<=", ">=", "<1<", "<;<", "<\u0000"}) {
            cuts(checks, line, "");
            checks.due("read of " + Checks.shown(line), new Desk().read(line), "fault 1");
        }
        cuts(checks, "5 <", "2:0-1:5");
        cuts(checks, Lines.blanks(1022) + "<<", "4:1022-1024:60");
        cuts(checks, Lines.blanks(1023) + "<", "");
        cuts(checks, Lines.blanks(1023) + ">", "");
    }

    private static void asLongAsCanBe(Checks checks) {
        cuts(checks, "<<<<", "4:0-2:60 4:2-4:60");
        cuts(checks, "<<<", "4:0-2:60");
        cuts(checks, ">>>", "4:0-2:62");
        cuts(checks, ">>>>>", "4:0-2:62 4:2-4:62");
        cuts(checks, "abc123._x", "1:0-9:0");
        cuts(checks, "123456", "2:0-6:123456");
        cuts(checks, "0x1f", "2:0-4:31");
        cuts(checks, "0b11", "2:0-4:3");
        cuts(checks, "++", "4:0-1:43 4:1-2:43");
        cuts(checks, "-5", "4:0-1:45 2:1-2:5");
        cuts(checks, "$a", "4:0-1:36 1:1-2:0");
        cuts(checks, "a<<b>>5", "1:0-1:0 4:1-3:60 1:3-4:0 4:4-6:62 2:6-7:5");
        cuts(checks, "\"a b\"", "3:0-5:0");
    }

    private static void nowhere(Checks checks) {
        String[][] due = {{"@", ""}, {"@1", ""}, {"1@", "2:0-1:1"}, {"1 @ 2", "2:0-1:1"}, {"a,@,b", "1:0-1:0 4:1-2:44"}, {"a b c @", "1:0-1:0 1:2-3:0 1:4-5:0"},
            {"a 5b c", "1:0-1:0"}, {"( 'ab' )", "4:0-1:40"}, {"1 \\", "2:0-1:1"}, {"1=2", "2:0-1:1"}, {"a!", "1:0-1:0"}};
        for (String[] row : due) {
            cuts(checks, row[0], row[1]);
            checks.due("read of " + Checks.shown(row[0]), new Desk().read(row[0]), "fault 1");
            checks.due("place of " + Checks.shown(row[0]), new Desk().place(row[0]), -1);
            checks.due("bar of " + Checks.shown(row[0]), new Desk().bar(row[0]), false);
            checks.due("constant of " + Checks.shown(row[0]), new Desk().constant(row[0], 1), false);
        }
        for (char c : "!#=?@\\`{}".toCharArray()) {
            checks.due("read of 1 " + c, new Desk().read("1 " + c), "fault 1");
        }
    }
}
