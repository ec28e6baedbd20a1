/** Promise 2, type. */
public final class Promise02TypeTest {
    private static final long DIGITS = 0x3132333435363738L;

    public static void main(String[] args) {
        Sentences all = new Sentences("Promise 2, type");
        all.holds("the n lowest bytes of word, for n of 1 .. 8", Promise02TypeTest::lowestBytes);
        all.holds("the highest of them first", Promise02TypeTest::highestFirst);
        all.holds("bytes of 128 .. 255 are bytes as others are", Promise02TypeTest::highBytes);
        all.holds("are appended to the line", Promise02TypeTest::appended);
        all.holds("false if n is not 1 .. 8: too small", checks -> refused(checks, new int[] {0, -1, -2, -8, -1024, Integer.MIN_VALUE}));
        all.holds("false if n is not 1 .. 8: too large", checks -> refused(checks, new int[] {9, 10, 16, 64, 256, 1024, Integer.MAX_VALUE}));
        all.holds("false if there would be more than 1024: full, by each n", Promise02TypeTest::fullLine);
        all.holds("false if there would be more than 1024: the last that has room, by each n", Promise02TypeTest::almostFull);
        all.holds("false if there would be more than 1024: nothing of the word is appended", Promise02TypeTest::nothingAppended);
        all.holds("there is room again when the line was used", Promise02TypeTest::roomAgain);
        all.end();
    }

    private static void lowestBytes(Checks checks) {
        String[] due = {"8", "78", "678", "5678", "45678", "345678", "2345678", "12345678"};
        for (int n = 1; n <= 8; n++) {
            Desk desk = new Desk();
            checks.due("type of " + n + " bytes", desk.type(DIGITS, n), true);
            checks.due("read of " + n + " bytes", desk.read(""), "constant " + due[n - 1]);
            checks.due("end of the token", desk.token(0, 2), n);
        }
        Desk desk = new Desk();
        checks.due("type of a byte with others above it", desk.type(0xffffffffffffff39L, 1), true);
        checks.due("read of it", desk.read(""), "constant 9");
    }

    private static void highestFirst(Checks checks) {
        Desk desk = new Desk();
        desk.type(0x312d32L, 3);
        checks.due("read of 1-2", desk.read(""), "constant -1");
        desk.type(0x6162636465666768L, 8);
        checks.due("place of abcdefgh", desk.place(""), 0);
        checks.due("place of the same, in another way", desk.place("abcdefgh"), 0);
        checks.due("place of hgfedcba", desk.place("hgfedcba"), 1);
    }

    private static void highBytes(Checks checks) {
        Desk desk = new Desk();
        checks.due("type of high bytes in a comment", desk.type(0x313bff80L, 4), true);
        checks.due("read of it", desk.read(""), "constant 1");
        checks.due("type of -1", desk.type(-1, 8), true);
        checks.due("read of it", desk.read(""), "fault 1");
        checks.due("type of 0", desk.type(0, 1), true);
        checks.due("read of it", desk.read(""), "fault 1");
        for (int n = 1; n <= 8; n++) {
            desk.type(0xffL << 8 * (n - 1) | DIGITS & (1L << 8 * (n - 1)) - 1, n);
            checks.due("read of 255 ahead of " + (n - 1) + " digits", desk.read(""), "fault 1");
        }
    }

    private static void appended(Checks checks) {
        Desk desk = new Desk();
        desk.type(0x3132L, 2);
        desk.type(0x33L, 1);
        desk.type(0x2b343536L, 4);
        checks.due("read of three words", desk.read(""), "constant " + (123 + 456));
        desk.type(0x37L, 1);
        checks.due("read of what came behind the line", desk.read(""), "constant 7");
    }

    private static void refused(Checks checks, int[] counts) {
        for (int n : counts) {
            Desk desk = new Desk();
            desk.type("7");
            checks.due("type of " + n, desk.type(DIGITS, n), false);
            checks.due("read of the line as it was", desk.read(""), "constant 7");
            checks.due("type of " + n + " bytes to an empty line", desk.type(DIGITS, n), false);
            checks.due("read of the empty line", desk.read(""), "fault 2");
        }
    }

    private static void fullLine(Checks checks) {
        Desk desk = new Desk();
        checks.due("type of 1024 bytes", desk.type("0".repeat(1023) + "1"), true);
        for (int n = 1; n <= 8; n++) {
            checks.due("type of " + n + " more", desk.type(DIGITS, n), false);
        }
        checks.due("read of the line", desk.read(""), "constant 1");
        checks.due("end of the token", desk.token(0, 2), 1024);
    }

    private static void almostFull(Checks checks) {
        for (int n = 1; n <= 8; n++) {
            Desk full = new Desk();
            full.type(Lines.blanks(1024 - n));
            checks.due("type of " + n + " bytes behind " + (1024 - n), full.type(DIGITS, n), true);
            checks.due("type of one more", full.type(DIGITS, 1), false);
            full.read("");
            checks.due("end of the token", full.token(0, 2), 1024);
            Desk over = new Desk();
            over.type(Lines.blanks(1025 - n));
            checks.due("type of " + n + " bytes behind " + (1025 - n), over.type(DIGITS, n), false);
        }
    }

    private static void nothingAppended(Checks checks) {
        for (int n = 2; n <= 8; n++) {
            Desk desk = new Desk();
            desk.type("0".repeat(1024 - n) + "2");
            checks.due("type of " + n + " where " + (n - 1) + " have room", desk.type(DIGITS, n), false);
            checks.due("type of " + (n - 1) + " then", desk.type(0x20202020202020L, n - 1), true);
            checks.due("read of the line", desk.read(""), "constant 2");
        }
    }

    private static void roomAgain(Checks checks) {
        Desk desk = new Desk();
        desk.type(Lines.blanks(1024));
        desk.bar("");
        checks.due("1024 bytes behind bar", desk.type(Lines.blanks(1024)), true);
        desk.constant("", 1);
        checks.due("1024 bytes behind constant", desk.type(Lines.blanks(1024)), true);
        checks.due("no more", desk.type(DIGITS, 1), false);
        Desk other = new Desk();
        other.type(Lines.blanks(1024));
        other.place("");
        checks.due("1024 bytes behind place", other.type(Lines.blanks(1024)), true);
        other.read("");
        checks.due("1024 bytes behind read", other.type(Lines.blanks(1024)), true);
        checks.due("no more", other.type(DIGITS, 1), false);
    }
}
