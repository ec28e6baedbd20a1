/** The document's term TEXTS. */
public final class TermTextsTest {
    public static void main(String[] args) {
        Sentences all = new Sentences("Terms, TEXTS");
        all.holds("such characters: which they are, of all bytes", TermTextsTest::characters);
        all.holds("here ' is one", TermTextsTest::quoteOfCharacters);
        all.holds("\" is none", TermTextsTest::quoteOfTexts);
        all.holds("such characters: an ESCAPE is one, of all bytes", TermTextsTest::escapes);
        all.holds("between two \" : an empty one", TermTextsTest::empty);
        all.holds("between two \" : the longest one", TermTextsTest::longest);
        all.holds("between two \" : one that does not end is a fault", TermTextsTest::unended);
        all.holds("what stands directly behind a TEXT is free", TermTextsTest::behind);
        all.end();
    }

    private static void cuts(Checks checks, String line, String due) {
        Desk desk = new Desk();
        desk.read(line);
        checks.due("tokens of " + Checks.shown(line), desk.tokens(), due);
    }

    private static void characters(Checks checks) {
        for (char c = 0; c < Lines.BYTES; c++) {
            if (c != '"' && c != '\\') {
                cuts(checks, "\"" + c + "\"", Lines.isPrintable(c) ? "3:0-3:0" : "");
                cuts(checks, "1\"a" + c + "b\"2", Lines.isPrintable(c) ? "2:0-1:1 3:1-6:0 2:6-7:2" : "2:0-1:1");
            }
        }
        cuts(checks, "\"\\\"", "");
    }

    private static void quoteOfCharacters(Checks checks) {
        cuts(checks, "\"'\"", "3:0-3:0");
        cuts(checks, "\"''\"", "3:0-4:0");
        cuts(checks, "\"'a'\" 'b'", "3:0-5:0 2:6-9:98");
        cuts(checks, "\"it's\"", "3:0-6:0");
    }

    private static void quoteOfTexts(Checks checks) {
        cuts(checks, "\"a\"b\"", "3:0-3:0 1:3-4:0");
        cuts(checks, "\"a\" \"b\"", "3:0-3:0 3:4-7:0");
        cuts(checks, "\"a\"\"b\"", "3:0-3:0 3:3-6:0");
        cuts(checks, "\"a\"\"", "3:0-3:0");
    }

    private static void escapes(Checks checks) {
        for (char c = 0; c < Lines.BYTES; c++) {
            cuts(checks, "\"\\" + c + "\"", Lines.isPrintable(c) ? "3:0-4:0" : "");
        }
        cuts(checks, "\"\\\\\"5", "3:0-4:0 2:4-5:5");
        cuts(checks, "\"\\\\\\\"\"5", "3:0-6:0 2:6-7:5");
        cuts(checks, "\"\\n\\t\\0\\q\\'\\\"\"", "3:0-14:0");
        cuts(checks, "\"\\\\\\\"", "");
    }

    private static void empty(Checks checks) {
        cuts(checks, "\"\"", "3:0-2:0");
        cuts(checks, "\"\"\"\"", "3:0-2:0 3:2-4:0");
        cuts(checks, " \"\",", "3:1-3:0 4:3-4:44");
        checks.due("read of an empty text", new Desk().read("\"\""), "fault 2");
    }

    private static void longest(Checks checks) {
        cuts(checks, "\"" + "a".repeat(62) + "\"", "3:0-64:0");
        cuts(checks, "\"" + "a".repeat(254) + "\"", "3:0-256:0");
        cuts(checks, "\"" + ";".repeat(1022) + "\"", "3:0-1024:0");
        cuts(checks, "\"" + "\\\"".repeat(511) + "\"", "3:0-1024:0");
        cuts(checks, "\"" + "\\\\".repeat(510) + "\"+5", "3:0-1022:0 4:1022-1023:43 2:1023-1024:5");
    }

    private static void unended(Checks checks) {
        String[] lines = {"\"", "\"a", "\"a'", "\"a;", "\"a\\\"", "\"\\", "\"\\\"", "\"a\t\"", "\"\u007f\"", "\"\u00e9\"", "\"\n\"",
            "\"" + "a".repeat(1023), "\"" + "\\\"".repeat(511) + "a", "\"" + "a".repeat(1022) + "\\"};
        for (String line : lines) {
            cuts(checks, line, "");
            checks.due("read of " + Checks.shown(line), new Desk().read(line), "fault 1");
        }
        cuts(checks, "5 \"a", "2:0-1:5");
    }

    private static void behind(Checks checks) {
        cuts(checks, "\"a\"b", "3:0-3:0 1:3-4:0");
        cuts(checks, "\"a\"5", "3:0-3:0 2:3-4:5");
        cuts(checks, "\"a\"_", "3:0-3:0 1:3-4:0");
        cuts(checks, "\"a\".", "3:0-3:0 1:3-4:0");
        cuts(checks, "\"a\"'b'", "3:0-3:0 2:3-6:98");
        cuts(checks, "b\"a\"", "1:0-1:0 3:1-4:0");
        cuts(checks, "5\"a\"", "2:0-1:5 3:1-4:0");
    }
}
