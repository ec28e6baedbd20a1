/** Promise 2: the n lowest bytes of word, the highest of them first, are appended to the line. */
public final class TypeTest {
    private static final Checks CHECKS = new Checks("type");

    public static void main(String[] args) {
        appendsTheLowestBytesOnly();
        refusesOtherCounts();
        refusesMoreThanTheLimit();
        CHECKS.end();
    }

    private static void appendsTheLowestBytesOnly() {
        long digits = 0x3132333435363738L;
        String[] due = {"8", "78", "678", "5678", "45678", "345678", "2345678", "12345678"};
        for (int n = 1; n <= 8; n++) {
            Desk desk = new Desk();
            CHECKS.due("type(digits, " + n + ")", desk.reader.type(digits, n), true);
            CHECKS.due("read of " + n, desk.read(""), "constant " + due[n - 1]);
        }
        Desk twice = new Desk();
        twice.reader.type(0x3132L, 2);
        twice.reader.type(0xffffffffffffff33L, 1);
        CHECKS.due("two words", twice.read(""), "constant 123");
        Desk highByte = new Desk();
        highByte.reader.type(0x313bff80L, 4);
        CHECKS.due("bytes above 127, in a comment", highByte.read(""), "constant 1");
        Desk negative = new Desk();
        negative.reader.type(0xff31313131313131L, 8);
        CHECKS.due("a byte of 255 in front", negative.read(""), "fault 1");
    }

    private static void refusesOtherCounts() {
        Desk desk = new Desk();
        desk.type("7");
        for (int n : new int[] {0, -1, 9, 16, 64, Integer.MIN_VALUE, Integer.MAX_VALUE}) {
            CHECKS.due("type(.., " + n + ")", desk.reader.type(0x3131313131313131L, n), false);
        }
        CHECKS.due("the line is as it was", desk.read(""), "constant 7");
    }

    private static void refusesMoreThanTheLimit() {
        Desk full = new Desk();
        CHECKS.due("1024 bytes", full.type("0".repeat(1023) + "1"), true);
        CHECKS.due("one more", full.reader.type('1', 1), false);
        CHECKS.due("the whole line", full.read(""), "constant 1");
        CHECKS.due("token's end", full.reader.token(0, 2), 1024);
        CHECKS.due("room again", full.type("0".repeat(1024)), true);

        Desk almost = new Desk();
        almost.type("0".repeat(1016) + "2");
        CHECKS.due("8 where 7 have room", almost.reader.type(0x2020202020202020L, 8), false);
        CHECKS.due("7 where 7 have room", almost.reader.type(0x20202020202020L, 7), true);
        CHECKS.due("nothing was appended by the refused word", almost.read(""), "constant 2");
    }
}
