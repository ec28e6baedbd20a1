/** The document's terms LINE, COMMENT and BLANKS. */
public final class TermLineTest {
    public static void main(String[] args) {
        Sentences all = new Sentences("Terms, LINE");
        all.holds("at most 1024 bytes: a full line is used whole, by each call", TermLineTest::fullLine);
        all.holds("at most 1024 bytes: a full line may hold 1024 tokens", TermLineTest::fullOfTokens);
        all.holds("only 9 and 32 .. 126 may stand there: every other byte is a fault", TermLineTest::otherBytes);
        all.holds("only 9 and 32 .. 126 may stand there: each of these may", TermLineTest::bytesThatMayStand);
        all.holds("but for COMMENTS: every byte may stand in one", TermLineTest::bytesOfComments);
        all.holds("a ; outside of characters and texts begins a COMMENT", TermLineTest::beginsOfComments);
        all.holds("a ; inside of a character or a text begins none", TermLineTest::noBeginsOfComments);
        all.holds("a COMMENT goes to the end", TermLineTest::endsOfComments);
        all.holds("BLANKS (9, 32) may stand between tokens", TermLineTest::blanksBetween);
        all.holds("BLANKS may stand between tokens, not in them", TermLineTest::noBlanksInside);
        all.holds("BLANKS alone are no token", TermLineTest::blanksAlone);
        all.end();
    }

    private static void fullLine(Checks checks) {
        Desk desk = new Desk();
        checks.due("read of 1024 bytes", desk.read(Lines.blanks(1023) + "7"), "constant 7");
        checks.due("the end of its token", desk.token(0, 2), 1024);
        checks.due("read of 1024 bytes, the first in use", desk.read("8" + Lines.blanks(1023)), "constant 8");
        Desk names = new Desk();
        checks.due("place of 1024 bytes", names.place(Lines.blanks(1022) + "pq"), 0);
        checks.due("bar of 1024 bytes", names.bar(Lines.blanks(1022) + "rs"), true);
        checks.due("constant of 1024 bytes", names.constant(Lines.blanks(1022) + "cd", 6), true);
        checks.due("read of the place", names.read("pq"), "place 0 + 0");
        checks.due("read of the barred name", names.read("rs"), "fault 2");
        checks.due("read of the constant", names.read("cd"), "constant 6");
        Desk fault = new Desk();
        checks.due("a fault in byte 1024", fault.read("1" + Lines.blanks(1022) + "@"), "fault 1");
        checks.due("a sign in byte 1024", fault.read("1" + Lines.blanks(1022) + "+"), "fault 2");
    }

    private static void fullOfTokens(Checks checks) {
        Desk desk = new Desk();
        checks.due("1023 signs in front", desk.read("+".repeat(1023) + "1"), "constant 1");
        checks.due("kind of the last token", desk.token(1023, 0), 2);
        checks.due("begin of the last token", desk.token(1023, 1), 1023);
        checks.due("end of the last token", desk.token(1023, 2), 1024);
        checks.due("worth of the last token", desk.token(1023, 3), 1);
        checks.due("a token behind the last", desk.token(1024, 0), -1);
        checks.due("1024 signs that are no expression", desk.read(",".repeat(1024)), "fault 2");
        checks.due("kind of the last sign", desk.token(1023, 0), 4);
        checks.due("1023 signs and a fault", desk.read(",".repeat(1023) + "@"), "fault 1");
        checks.due("the sign ahead of the fault", desk.token(1022, 0), 4);
        checks.due("no token at the fault", desk.token(1023, 0), -1);
    }

    private static boolean mayStand(char c) {
        return c == 9 || Lines.isPrintable(c);
    }

    private static void otherBytes(Checks checks) {
        for (char c = 0; c < Lines.BYTES; c++) {
            if (mayStand(c)) {
                continue;
            }
            Desk desk = new Desk();
            String[] lines = {"" + c, c + "1", "1" + c, "1 " + c + " ;", "1 + " + c + "2", "n" + c, "\"" + c + "\"", "'" + c + "'",
                "'\\" + c + "'", "\"\\" + c + "\"", "0x" + c, "<" + c + "<"};
            for (String line : lines) {
                checks.due("read of " + Checks.shown(line), desk.read(line), "fault 1");
            }
            checks.due("place of n behind byte " + (int) c, desk.place(c + "n"), -1);
            checks.due("bar of n ahead of byte " + (int) c, desk.bar("n" + c), false);
            checks.due("constant of n ahead of byte " + (int) c, desk.constant("n " + c, 1), false);
        }
    }

    private static void bytesThatMayStand(Checks checks) {
        for (char c = 0; c < Lines.BYTES; c++) {
            if (!mayStand(c)) {
                continue;
            }
            Desk desk = new Desk();
            String inside = c == 9 ? "" : c == '"' || c == '\\' ? "\\" + c : "" + c;
            String line = c == 9 ? "\t\"\"\t" : "\"" + inside + "\"";
            checks.due("read of " + Checks.shown(line), desk.read(line), "fault 2");
            checks.due("the token of " + Checks.shown(line), desk.token(0, 0), 3);
        }
    }

    private static void bytesOfComments(Checks checks) {
        for (char c = 0; c < Lines.BYTES; c++) {
            Desk desk = new Desk();
            for (String comment : new String[] {";" + c, " ; " + c + c, ";a" + c + "b"}) {
                checks.due("read of 1" + Checks.shown(comment), desk.read("1" + comment), "constant 1");
            }
            checks.due("place of n with byte " + (int) c + " in a comment", desk.place("n;" + c), 0);
            checks.due("tokens of a comment alone", desk.read(";" + c) + desk.tokens(), "fault 2");
        }
    }

    private static void beginsOfComments(Checks checks) {
        String[][] due = {{"1;2", "constant 1"}, {"1;", "constant 1"}, {";1", "fault 2"}, {";", "fault 2"}, {"1+;2", "fault 2"},
            {"(1;)", "fault 2"}, {"';';'", "constant 59"}, {"'a';", "constant 97"}, {"0x1f;g", "constant 31"},
            {"1<<;<", "fault 2"}, {"1;@", "constant 1"}, {"$;$", "place -2 + 0"}, {"1<;<2", "fault 1"}};
        for (String[] row : due) {
            checks.due("read of " + Checks.shown(row[0]), new Desk().read(row[0]), row[1]);
        }
        Desk desk = new Desk();
        desk.read("\"a\";\"b\"");
        checks.due("tokens of a text and a comment", desk.tokens(), "3:0-3:0");
        checks.due("a comment of the last byte", new Desk().read(Lines.blanks(1022) + "1;"), "constant 1");
        checks.due("bar of a name and a comment", desk.bar("x;y"), true);
        checks.due("place of a name and a comment", desk.place("p ; q r"), 0);
        checks.due("constant of a name and a comment", desk.constant("c;", 2), true);
    }

    private static void noBeginsOfComments(Checks checks) {
        checks.due("read of ';'", new Desk().read("';'"), "constant 59");
        checks.due("read of '\\;'", new Desk().read("'\\;'"), "constant 59");
        checks.due("read of ';'+1", new Desk().read("';'+1"), "constant 60");
        Desk desk = new Desk();
        desk.read("\";\" \"a\\;b\" 1");
        checks.due("tokens behind texts with a ;", desk.tokens(), "3:0-3:0 3:4-10:0 2:11-12:1");
        desk.read("\"\\\";\"5");
        checks.due("a ; behind an escaped quote", desk.tokens(), "3:0-5:0 2:5-6:5");
    }

    private static void endsOfComments(Checks checks) {
        for (String tail : new String[] {"\n2", "\r\n+2", "\u00002", "; 2", ";;", "' '", "\"\" + 2", "' \" @ \u00ff", "\\n2", "*/ + 2"}) {
            checks.due("read of 1;" + Checks.shown(tail), new Desk().read("1;" + tail), "constant 1");
        }
        checks.due("a comment to byte 1024", new Desk().read("1;" + "+2".repeat(511)), "constant 1");
        checks.due("a comment of 1024 bytes", new Desk().read(";" + "\u0001".repeat(1023)), "fault 2");
        Desk desk = new Desk();
        desk.read("1 ; only this line");
        checks.due("the next line", desk.read("2"), "constant 2");
    }

    private static void blanksBetween(Checks checks) {
        for (String blanks : new String[] {"", " ", "\t", " \t", "\t\t  ", Lines.blanks(200)}) {
            String line = blanks + "(" + blanks + "1" + blanks + "+" + blanks + "$" + blanks + ")" + blanks;
            checks.due("read of " + Checks.shown(line), new Desk().read(line), "place -2 + 1");
        }
        Desk desk = new Desk();
        desk.read("\ta  b\t\t\"c\" ");
        checks.due("tokens between blanks", desk.tokens(), "1:1-2:0 1:4-5:0 3:7-10:0");
        checks.due("place of a name with blanks around", desk.place(" \tn\t "), 0);
        checks.due("place of that name", desk.place("n"), 0);
        checks.due("bar of a name with blanks around", desk.bar("\tx "), true);
        checks.due("constant of a name with blanks around", desk.constant(" c\t", 4), true);
    }

    private static void noBlanksInside(Checks checks) {
        String[][] due = {{"1 2", "2:0-1:1 2:2-3:2"}, {"a b", "1:0-1:0 1:2-3:0"}, {"a\tb", "1:0-1:0 1:2-3:0"}, {"< <", ""}, {"> >", ""},
            {"0 x1", "2:0-1:0 1:2-4:0"}, {"0x 1", ""}, {"0b\t1", ""}, {"' a'", ""}, {"'a '", ""}, {"'\\ n'", ""},
            {"1\t2", "2:0-1:1 2:2-3:2"}, {"\" a \"", "3:0-5:0"}};
        for (String[] row : due) {
            Desk desk = new Desk();
            desk.read(row[0]);
            checks.due("tokens of " + Checks.shown(row[0]), desk.tokens(), row[1]);
        }
        checks.due("place of a name with a blank inside", new Desk().place("a b"), -1);
    }

    private static void blanksAlone(Checks checks) {
        for (int count : new int[] {1, 2, 9, 1023, 1024}) {
            Desk desk = new Desk();
            checks.due("read of " + count + " blanks", desk.read(Lines.blanks(count)), "fault 2");
            checks.due("tokens of " + count + " blanks", desk.tokens(), "");
            checks.due("place of " + count + " blanks", desk.place(Lines.blanks(count)), -1);
        }
    }
}
