/** Bytes and lines that several tests are made of; a char of 0 .. 255 is a byte. */
final class Lines {
    static final int BYTES = 256;
    static final String DIGITS = "0123456789";
    static final String OF_NAMES = "abcdefghijklmnopqrstuvwxyz" + "ABCDEFGHIJKLMNOPQRSTUVWXYZ" + DIGITS + "_.";
    static final String BLANKS = "\t ";
    static final String SIGNS_OF_ONE = ",:[]()+-*/%&|^~$";
    /** The signs that stand between two operands, from what binds least. */
    static final String[][] BETWEEN = {{"|"}, {"^"}, {"&"}, {"<<", ">>"}, {"+", "-"}, {"*", "/", "%"}};

    /** Whole lines that are not just one name, whatever is known. */
    static final String[] NO_NAME = {
        "", " ", "\t\t", ";", "; a", " ;a",
        "5", "0x1f", "'a'", "\"a\"", "\"\"", "$", "+", ",", "<<",
        "a b", "a a", "a,", ",a", "-a", "+a", "(a)", "a 5", "5 a", "a\"b\"", "\"b\"a", "a'b'", "$a", "a$",
        "a @", "@ a", "@", "a\"", "a'", "5a", "0xg", "a<", "a\\", "a\u0001", "a\n", "a\u007f", "a\u0080", "\u00ffa",
        "a" + "b".repeat(63), "a".repeat(1024)};

    static boolean isPrintable(int c) {
        return c >= 32 && c <= 126;
    }

    static boolean isOneOf(String all, char c) {
        return all.indexOf(c) >= 0;
    }

    static String blanks(int count) {
        return " \t".repeat(count / 2) + " ".repeat(count % 2);
    }
}
