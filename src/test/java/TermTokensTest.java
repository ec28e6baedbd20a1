/** The document's term TOKENS: how they are taken from a line. */
public final class TermTokensTest {
    public static void main(String[] args) {
        Sentences all = new Sentences("Terms, TOKENS");
        all.holds("taken from the left, each as long as can be", TermTokensTest::asLongAsCanBe);
        all.holds("where none can be is a fault", TermTokensTest::nowhere);
        all.holds("where none can be is a fault: at the last of 1024 bytes", TermTokensTest::nowhereAtTheEnd);
        all.end();
    }

    private static void cuts(Checks checks, String line, String due) {
        Desk desk = new Desk();
        desk.read(line);
        checks.due("tokens of " + Checks.shown(line), desk.tokens(), due);
    }

    private static void asLongAsCanBe(Checks checks) {
        cuts(checks, "<<<<", "4:0-2:60 4:2-4:60");
        cuts(checks, "<<<", "4:0-2:60");
        cuts(checks, ">>>", "4:0-2:62");
        cuts(checks, ">>>>>", "4:0-2:62 4:2-4:62");
        cuts(checks, "abc123._x", "1:0-9:0");
        cuts(checks, "123456", "2:0-6:123456");
        cuts(checks, "0x1f", "2:0-4:31");
        cuts(checks, "0b11", "2:0-4:3");
        cuts(checks, "++", "4:0-1:43 4:1-2:43");
        cuts(checks, "-5", "4:0-1:45 2:1-2:5");
        cuts(checks, "$a", "4:0-1:36 1:1-2:0");
        cuts(checks, "a<<b>>5", "1:0-1:0 4:1-3:60 1:3-4:0 4:4-6:62 2:6-7:5");
        cuts(checks, "\"a b\"", "3:0-5:0");
    }

    private static void nowhere(Checks checks) {
        String[][] due = {{"@", ""}, {"@1", ""}, {"1@", "2:0-1:1"}, {"1 @ 2", "2:0-1:1"}, {"a,@,b", "1:0-1:0 4:1-2:44"},
            {"a b c @", "1:0-1:0 1:2-3:0 1:4-5:0"},
            {"a 5b c", "1:0-1:0"}, {"( 'ab' )", "4:0-1:40"}, {"1 \\", "2:0-1:1"}, {"1=2", "2:0-1:1"}, {"a!", "1:0-1:0"}};
        for (String[] row : due) {
            cuts(checks, row[0], row[1]);
            checks.due("read of " + Checks.shown(row[0]), new Desk().read(row[0]), "fault 1");
            checks.due("place of " + Checks.shown(row[0]), new Desk().place(row[0]), -1);
            checks.due("bar of " + Checks.shown(row[0]), new Desk().bar(row[0]), false);
            checks.due("constant of " + Checks.shown(row[0]), new Desk().constant(row[0], 1), false);
        }
        for (char c : "!#=?@\\`{}".toCharArray()) {
            checks.due("read of 1 " + c, new Desk().read("1 " + c), "fault 1");
        }
    }

    private static void nowhereAtTheEnd(Checks checks) {
        for (String end : new String[] {"@", "<", ">", "'", "\"", "\\", "\u0000", "\u00ff"}) {
            Desk desk = new Desk();
            checks.due("read of a line with " + Checks.shown(end) + " at its end", desk.read("7" + Lines.blanks(1022) + end), "fault 1");
            checks.due("its tokens", desk.tokens(), "2:0-1:7");
        }
    }
}
