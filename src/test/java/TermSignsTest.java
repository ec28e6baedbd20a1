/** The document's term SIGNS. */
public final class TermSignsTest {
    public static void main(String[] args) {
        Sentences all = new Sentences("Terms, SIGNS");
        all.holds("which they are, of all bytes", TermSignsTest::ofOneByte);
        all.holds("<< >> are of two bytes, < and > alone are none", TermSignsTest::ofTwoBytes);
        all.end();
    }

    private static void cuts(Checks checks, String line, String due) {
        Desk desk = new Desk();
        desk.read(line);
        checks.due("tokens of " + Checks.shown(line), desk.tokens(), due);
    }

    private static void ofOneByte(Checks checks) {
        for (char c = 0; c < Lines.BYTES; c++) {
            if (!Lines.isOneOf(Lines.OF_NAMES, c)) {
                boolean sign = Lines.isOneOf(Lines.SIGNS_OF_ONE, c);
                cuts(checks, "" + c, sign ? "4:0-1:" + (int) c : "");
                cuts(checks, "a" + c, "1:0-1:0" + (sign ? " 4:1-2:" + (int) c : ""));
            }
        }
        for (char first : Lines.SIGNS_OF_ONE.toCharArray()) {
            for (char second : Lines.SIGNS_OF_ONE.toCharArray()) {
                cuts(checks, "" + first + second, "4:0-1:" + (int) first + " 4:1-2:" + (int) second);
            }
        }
    }

    private static void ofTwoBytes(Checks checks) {
        cuts(checks, "<<", "4:0-2:60");
        cuts(checks, ">>", "4:0-2:62");
        cuts(checks, "<<>>", "4:0-2:60 4:2-4:62");
        cuts(checks, ">><<", "4:0-2:62 4:2-4:60");
        for (String line : new String[] {"<", ">", "<>", "><", "< <", "> >", "<=", ">=", "<1<", "<;<", "<\u0000"}) {
            cuts(checks, line, "");
            checks.due("read of " + Checks.shown(line), new Desk().read(line), "fault 1");
        }
        cuts(checks, "5 <", "2:0-1:5");
        cuts(checks, Lines.blanks(1022) + "<<", "4:1022-1024:60");
        cuts(checks, Lines.blanks(1023) + "<", "");
        cuts(checks, Lines.blanks(1023) + ">", "");
    }
}
