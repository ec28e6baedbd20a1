/** Promise 10: the tokens of the line that was used latest, ahead of a fault. */
public final class TokenTest {
    private static final Checks CHECKS = new Checks("token");

    public static void main(String[] args) {
        tellsAllKinds();
        tellsTokensAheadOfAFault();
        tellsOfTheLineUsedLatest();
        refusesOtherArguments();
        holdsAsManyAsALineHas();
        CHECKS.end();
    }

    /** The same tokens, whichever call uses the line. */
    private static void cuts(String line, String due) {
        Desk desk = new Desk();
        desk.read(line);
        CHECKS.due("tokens of " + line + " (read)", desk.tokens(), due);
        desk.bar(line);
        CHECKS.due("tokens of " + line + " (bar)", desk.tokens(), due);
        desk.place(line);
        CHECKS.due("tokens of " + line + " (place)", desk.tokens(), due);
        desk.constant(line, 1);
        CHECKS.due("tokens of " + line + " (constant)", desk.tokens(), due);
    }

    private static void tellsAllKinds() {
        cuts("", "");
        cuts(" ;a", "");
        cuts("name", "1:0-4:0");
        cuts("\t a.b_9 ;c", "1:2-7:0");
        cuts("12 0x1F\t0b101", "2:0-2:12 2:3-7:31 2:8-13:5");
        cuts("0xffffffffffffffff", "2:0-18:2147483647");
        cuts("0x80000000", "2:0-10:0");
        cuts("0x180000007", "2:0-11:7");
        cuts("'a' '\\n''\\''", "2:0-3:97 2:4-8:10 2:8-12:39");
        cuts("\"\"", "3:0-2:0");
        cuts("\"a;'b\\\"\\n\\q\"x\"y\"1", "3:0-12:0 1:12-13:0 3:13-16:0 2:16-17:1");
        cuts("a\"b\"", "1:0-1:0 3:1-4:0");
        cuts("1'b'", "2:0-1:1 2:1-4:98");
        cuts(",:[]()", "4:0-1:44 4:1-2:58 4:2-3:91 4:3-4:93 4:4-5:40 4:5-6:41");
        cuts("+-*/%", "4:0-1:43 4:1-2:45 4:2-3:42 4:3-4:47 4:4-5:37");
        cuts("&|^~$", "4:0-1:38 4:1-2:124 4:2-3:94 4:3-4:126 4:4-5:36");
        cuts("<<>>", "4:0-2:60 4:2-4:62");
        cuts("a<<b", "1:0-1:0 4:1-3:60 1:3-4:0");
        cuts("$a", "4:0-1:36 1:1-2:0");
        cuts("-5", "4:0-1:45 2:1-2:5");
    }

    private static void tellsTokensAheadOfAFault() {
        cuts("@", "");
        cuts("a @ b", "1:0-1:0");
        cuts("a,5b c", "1:0-1:0 4:1-2:44");
        cuts("1 <<<", "2:0-1:1 4:2-4:60");
        cuts("1 \"a", "2:0-1:1");
        cuts("1 'a'b", "2:0-1:1");
        cuts("a 18446744073709551616", "1:0-1:0");
        cuts("+" + "n".repeat(64), "4:0-1:43");
        cuts("+" + "n".repeat(63) + "\u0001", "4:0-1:43 1:1-64:0");
        cuts("a\u00ff", "1:0-1:0");
        cuts("a;\u00ff", "1:0-1:0");
    }

    private static void tellsOfTheLineUsedLatest() {
        Desk desk = new Desk();
        desk.type("abc");
        CHECKS.due("before it is used", desk.tokens(), "");
        desk.place("");
        desk.type("5 6");
        CHECKS.due("while the next is typed", desk.tokens(), "1:0-3:0");
        desk.reader.fault();
        desk.reader.value();
        desk.reader.side(0);
        CHECKS.due("behind calls that use no line", desk.tokens(), "1:0-3:0");
        desk.read("");
        CHECKS.due("behind read", desk.tokens(), "2:0-1:5 2:2-3:6");
        desk.bar("");
        CHECKS.due("behind bar of an empty line", desk.tokens(), "");
    }

    private static void refusesOtherArguments() {
        Desk desk = new Desk();
        desk.read("7 8");
        for (int what : new int[] {-1, 4, Integer.MIN_VALUE, Integer.MAX_VALUE}) {
            CHECKS.due("token(0, " + what + ")", desk.reader.token(0, what), -1);
        }
        for (int k : new int[] {-1, 2, 1023, 1024, Integer.MIN_VALUE, Integer.MAX_VALUE}) {
            for (int what = 0; what <= 3; what++) {
                CHECKS.due("token(" + k + ", " + what + ")", desk.reader.token(k, what), -1);
            }
        }
        desk.read("1");
        CHECKS.due("a token of an earlier line", desk.reader.token(1, 0), -1);
    }

    private static void holdsAsManyAsALineHas() {
        Desk desk = new Desk();
        desk.read("+".repeat(1023) + "1");
        CHECKS.due("kind of the last", desk.reader.token(1023, 0), 2);
        CHECKS.due("begin of the last", desk.reader.token(1023, 1), 1023);
        CHECKS.due("end of the last", desk.reader.token(1023, 2), 1024);
        CHECKS.due("worth of the last", desk.reader.token(1023, 3), 1);
        CHECKS.due("behind the last", desk.reader.token(1024, 0), -1);
    }
}
