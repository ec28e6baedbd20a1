/** Promise 10, token. */
public final class Promise10TokenTest {
    private static final int[] NO_WHAT = {-1, 4, 5, -2, 256, 257, 65536, Integer.MIN_VALUE, Integer.MIN_VALUE + 3, Integer.MAX_VALUE};

    public static void main(String[] args) {
        Sentences all = new Sentences("Promise 10, token");
        all.holds("what 0: 1 a NAME, 2 a NUMBER, 3 a TEXT, 4 a SIGN", Promise10TokenTest::kinds);
        all.holds("what 1: where it begins", Promise10TokenTest::begins);
        all.holds("what 2: the place behind it", Promise10TokenTest::ends);
        all.holds("what 3: the first character of a SIGN", Promise10TokenTest::signs);
        all.holds("what 3: the lowest 31 bits of a NUMBER", Promise10TokenTest::lowestBits);
        all.holds("what 3: else 0", Promise10TokenTest::elseNone);
        all.holds("-1 if there is none such: k too small", Promise10TokenTest::tooSmall);
        all.holds("-1 if there is none such: k too large", Promise10TokenTest::tooLarge);
        all.holds("-1 if there is none such: another what", Promise10TokenTest::otherWhat);
        all.holds("-1 if there is none such: no line yet", Promise10TokenTest::noLineYet);
        all.holds("-1 if there is none such: a line without tokens", Promise10TokenTest::noTokens);
        all.holds("of the line that was used latest: by each call, in any case", Promise10TokenTest::usedByEach);
        all.holds("of the line that was used latest: not of the one that is typed", Promise10TokenTest::notTheTyped);
        all.holds("of the line that was used latest: none of an earlier line", Promise10TokenTest::noEarlier);
        all.holds("of its tokens ahead of a fault", Promise10TokenTest::aheadOfFault);
        all.holds("of all its tokens, if it has another fault", Promise10TokenTest::otherFaults);
        all.end();
    }

    private static Desk used(String line) {
        Desk desk = new Desk();
        desk.readKind(line, false);
        return desk;
    }

    private static void kinds(Checks checks) {
        Desk desk = used("name 5 \"text\" + . 0x1 'a' \"\" << $ 0b1");
        int[] due = {1, 2, 3, 4, 1, 2, 2, 3, 4, 4, 2};
        for (int k = 0; k < due.length; k++) {
            checks.due("kind of token " + k, desk.token(k, 0), due[k]);
        }
    }

    private static void begins(Checks checks) {
        Desk desk = used("\ta+ 12\t\"b\"<<'c'");
        int[] due = {1, 2, 4, 7, 10, 12};
        for (int k = 0; k < due.length; k++) {
            checks.due("begin of token " + k, desk.token(k, 1), due[k]);
        }
        checks.due("begin of the first byte", used("a").token(0, 1), 0);
        checks.due("begin of the last byte", used(Lines.blanks(1023) + "a").token(0, 1), 1023);
    }

    private static void ends(Checks checks) {
        Desk desk = used("\ta+ 12\t\"b\"<<'c' ");
        int[] due = {2, 3, 6, 10, 12, 15};
        for (int k = 0; k < due.length; k++) {
            checks.due("end of token " + k, desk.token(k, 2), due[k]);
        }
        checks.due("end of the first byte", used("a").token(0, 2), 1);
        checks.due("end of the last byte", used(Lines.blanks(1023) + "a").token(0, 2), 1024);
        checks.due("end of a token that is the whole line", used("0".repeat(1024)).token(0, 2), 1024);
        checks.due("end of a character with an escape", used("'\\n'").token(0, 2), 4);
        checks.due("end of a token ahead of a comment", used("ab;c").token(0, 2), 2);
    }

    private static void signs(Checks checks) {
        for (char c : Lines.SIGNS_OF_ONE.toCharArray()) {
            checks.due("character of " + c, used("" + c).token(0, 3), (int) c);
        }
        checks.due("first character of <<", used("<<").token(0, 3), 60);
        checks.due("first character of >>", used(">>").token(0, 3), 62);
    }

    private static void lowestBits(Checks checks) {
        String[][] due = {{"0", "0"}, {"1", "1"}, {"'a'", "97"}, {"'\\0'", "0"}, {"0x7ffffffe", "2147483646"}, {"0x7fffffff", "2147483647"},
            {"0x80000000", "0"}, {"0x80000001", "1"}, {"0xffffffff", "2147483647"}, {"0x100000000", "0"}, {"0x180000007", "7"},
            {"0x8000000000000000", "0"}, {"0xffffffffffffffff", "2147483647"}, {"18446744073709551615", "2147483647"}, {"2147483648", "0"},
            {"4294967301", "5"}, {"0b1" + "0".repeat(31), "0"}, {"0b" + "1".repeat(32), "2147483647"}};
        for (String[] row : due) {
            checks.due("lowest bits of " + row[0], used(row[0]).token(0, 3), row[1]);
        }
    }

    private static void elseNone(Checks checks) {
        for (String line : new String[] {"a", "name", "_", ".", "x5", "\"\"", "\"a\"", "\"5\"", "\"+\""}) {
            checks.due("what 3 of " + line, used(line).token(0, 3), 0);
        }
        Desk desk = Desk.withNames();
        desk.read("five");
        checks.due("what 3 of a constant's name", desk.token(0, 3), 0);
        desk.read("b");
        checks.due("what 3 of a place's name", desk.token(0, 3), 0);
        desk.read("7 b 9 \"c\"");
        checks.due("what 3 of a name behind a number", desk.token(1, 3), 0);
        checks.due("what 3 of a text behind a number", desk.token(3, 3), 0);
    }

    private static void none(Checks checks, Desk desk, int k) {
        for (int what = 0; what <= 3; what++) {
            checks.due("token " + k + ", " + what, desk.token(k, what), -1);
        }
    }

    private static void tooSmall(Checks checks) {
        Desk desk = used("7 8 a + \"b\"");
        for (int k : new int[] {-1, -2, -5, -1024, Integer.MIN_VALUE, Integer.MIN_VALUE + 1}) {
            none(checks, desk, k);
        }
    }

    private static void tooLarge(Checks checks) {
        Desk desk = used("7 8 a + \"b\"");
        checks.due("the last token", desk.token(4, 0), 3);
        for (int k : new int[] {5, 6, 255, 256, 1023, 1024, 1025, 65536, Integer.MAX_VALUE}) {
            none(checks, desk, k);
        }
        Desk full = used("+".repeat(1024));
        checks.due("the last token of 1024", full.token(1023, 0), 4);
        for (int k : new int[] {1024, 1025, 2047, 2048, Integer.MAX_VALUE}) {
            none(checks, full, k);
        }
    }

    private static void otherWhat(Checks checks) {
        Desk desk = used("7 a + \"b\"");
        for (int what : NO_WHAT) {
            for (int k = -1; k <= 4; k++) {
                checks.due("token " + k + ", " + what, desk.token(k, what), -1);
            }
        }
    }

    private static void noLineYet(Checks checks) {
        Desk desk = new Desk();
        for (int k : new int[] {-1, 0, 1, 1023, 1024}) {
            none(checks, desk, k);
        }
        desk.type("abc");
        none(checks, desk, 0);
        desk.type(0, 0);
        desk.fault();
        desk.value();
        none(checks, desk, 0);
    }

    private static void noTokens(Checks checks) {
        for (String line : new String[] {"", " ", "\t", ";", "; a b", " ;5", "@", "\u0001", "\"a", "5a"}) {
            Desk desk = used("7 8");
            desk.readKind(line, false);
            none(checks, desk, 0);
            none(checks, desk, 1);
            none(checks, desk, -1);
        }
    }

    private static void usedByEach(Checks checks) {
        String[][] due = {{"new", "1:0-3:0"}, {"a", "1:0-1:0"}, {"r", "1:0-1:0"}, {"five", "1:0-4:0"}, {"5 +", "2:0-1:5 4:2-3:43"}, {"", ""},
            {"\"b\"@", "3:0-3:0"}};
        for (String[] row : due) {
            Desk desk = Desk.withNames();
            String line = Checks.shown(row[0]);
            desk.bar("other one");
            desk.readKind(row[0], false);
            checks.due("tokens behind read of " + line, desk.tokens(), row[1]);
            desk.bar("other one");
            desk.readKind(row[0], true);
            checks.due("tokens behind read of products " + line, desk.tokens(), row[1]);
            desk.read("other one");
            desk.bar(row[0]);
            checks.due("tokens behind bar of " + line, desk.tokens(), row[1]);
            desk.read("other one");
            desk.place(row[0]);
            checks.due("tokens behind place of " + line, desk.tokens(), row[1]);
            desk.read("other one");
            desk.constant(row[0], 8);
            checks.due("tokens behind constant of " + line, desk.tokens(), row[1]);
        }
    }

    private static void notTheTyped(Checks checks) {
        Desk desk = used("abc 9");
        desk.type("5 6 7");
        checks.due("tokens while the next line is typed", desk.tokens(), "1:0-3:0 2:4-5:9");
        desk.type(0, 9);
        desk.fault();
        desk.value();
        desk.side(0);
        checks.due("tokens behind calls that use no line", desk.tokens(), "1:0-3:0 2:4-5:9");
        desk.readKind("", false);
        checks.due("tokens of the next line", desk.tokens(), "2:0-1:5 2:2-3:6 2:4-5:7");
    }

    private static void noEarlier(Checks checks) {
        Desk desk = used("1 2 3 4");
        desk.readKind("5", false);
        checks.due("tokens of a shorter line", desk.tokens(), "2:0-1:5");
        none(checks, desk, 1);
        none(checks, desk, 3);
        desk.place("");
        checks.due("tokens of an empty line", desk.tokens(), "");
        desk.readKind("a b c", false);
        desk.readKind("d @ e", false);
        checks.due("tokens ahead of a fault", desk.tokens(), "1:0-1:0");
    }

    private static void aheadOfFault(Checks checks) {
        String[][] due = {{"@", ""}, {"a @ b", "1:0-1:0"}, {"a,5b c", "1:0-1:0 4:1-2:44"}, {"1 <<<", "2:0-1:1 4:2-4:60"}, {"1 \"a", "2:0-1:1"},
            {"1 'a'b", "2:0-1:1"}, {"a 18446744073709551616", "1:0-1:0"}, {"+" + "n".repeat(64), "4:0-1:43"},
            {"+" + "n".repeat(63) + "\u0001", "4:0-1:43 1:1-64:0"}, {"a\u00ff", "1:0-1:0"}, {"a;\u00ff", "1:0-1:0"}, {"7'", "2:0-1:7"},
            {"1 0x", "2:0-1:1"}, {"1 2 >", "2:0-1:1 2:2-3:2"}};
        for (String[] row : due) {
            checks.due("tokens of " + Checks.shown(row[0]), used(row[0]).tokens(), row[1]);
        }
        Desk full = used("+".repeat(1023) + "@");
        checks.due("the last token ahead of a fault", full.token(1022, 2), 1023);
        none(checks, full, 1023);
    }

    private static void otherFaults(Checks checks) {
        checks.due("tokens of no expression", used("1 2 + )").tokens(), "2:0-1:1 2:2-3:2 4:4-5:43 4:6-7:41");
        checks.due("tokens with a name that is not known", used("1+n+2").tokens(), "2:0-1:1 4:1-2:43 1:2-3:0 4:3-4:43 2:4-5:2");
        checks.due("tokens of an odd value", used("1/0*3").tokens(), "2:0-1:1 4:1-2:47 2:2-3:0 4:3-4:42 2:4-5:3");
    }
}
