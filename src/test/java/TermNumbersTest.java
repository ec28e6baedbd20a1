import java.math.BigInteger;
import java.util.Random;

/** The document's terms NUMBERS and ESCAPE. */
public final class TermNumbersTest {
    private static final BigInteger LIMIT = BigInteger.TWO.pow(64);

    public static void main(String[] args) {
        Sentences all = new Sentences("Terms, NUMBERS");
        all.holds("below 2 to the power 64: digits", checks -> limits(checks, "", 10));
        all.holds("below 2 to the power 64: 0x and hexadecimal digits", checks -> limits(checks, "0x", 16));
        all.holds("below 2 to the power 64: 0b and binary digits", checks -> limits(checks, "0b", 2));
        all.holds("below 2 to the power 64: far above it", TermNumbersTest::farAbove);
        all.holds("as longs, that wrap", TermNumbersTest::wraps);
        all.holds("digits: which they are, of all bytes", TermNumbersTest::decimalDigits);
        all.holds("digits: as many as a line has room for", TermNumbersTest::manyDigits);
        all.holds("0x and hexadecimal digits (of both cases): which they are, of all bytes", TermNumbersTest::hexadecimalDigits);
        all.holds("0b and binary digits: which they are, of all bytes", TermNumbersTest::binaryDigits);
        all.holds("0x and 0b without a digit are no NUMBER", TermNumbersTest::noDigits);
        all.holds("a character between two ' : one of 32 .. 126 but ' and \\, of all bytes", TermNumbersTest::characters);
        all.holds("a character between two ' : just one, between two", TermNumbersTest::badCharacters);
        all.holds("an ESCAPE: \\n 10, \\t 9, \\0 0, \\ and any other character of 32 .. 126, of all bytes", TermNumbersTest::escapes);
        all.holds("no letter, digit, _ or . stands directly behind a NUMBER", TermNumbersTest::behind);
        all.end();
    }

    private static void reads(Checks checks, String line, String due) {
        checks.due("read of " + Checks.shown(line), new Desk().read(line), due);
    }

    private static void limits(Checks checks, String front, int base) {
        BigInteger[] numbers = {BigInteger.ZERO, BigInteger.ONE, BigInteger.TWO.pow(31), BigInteger.TWO.pow(32), BigInteger.TWO.pow(63),
            LIMIT.divide(BigInteger.TEN), LIMIT.divide(BigInteger.TEN).multiply(BigInteger.TEN), LIMIT, LIMIT.multiply(BigInteger.TWO),
            LIMIT.add(BigInteger.TWO.pow(63)), LIMIT.multiply(BigInteger.TEN), LIMIT.subtract(BigInteger.ONE).multiply(BigInteger.TEN)};
        for (BigInteger number : numbers) {
            for (int off = -11; off <= 11; off++) {
                BigInteger n = number.add(BigInteger.valueOf(off));
                if (n.signum() < 0) {
                    continue;
                }
                String due = n.compareTo(LIMIT) < 0 ? "constant " + n.longValue() : "fault 1";
                reads(checks, front + n.toString(base), due);
                reads(checks, front + "000" + n.toString(base), due);
            }
        }
        Desk desk = new Desk();
        desk.read("+" + front + LIMIT.toString(base));
        checks.due("tokens ahead of a number that is too large", desk.tokens(), "4:0-1:43");
    }

    private static void farAbove(Checks checks) {
        for (int power = 64; power <= 3300; power += power < 200 ? 1 : 97) {
            BigInteger n = BigInteger.TWO.pow(power);
            reads(checks, n.toString(), "fault 1");
            reads(checks, n.add(BigInteger.valueOf(7)).toString(), "fault 1");
            if (power < 1000) {
                reads(checks, "0b" + n.toString(2), "fault 1");
            }
            reads(checks, "0x" + n.toString(16), "fault 1");
        }
        Random random = new Random(64);
        for (int i = 0; i < 300; i++) {
            BigInteger n = new BigInteger(65 + i % 20, random).setBit(64 + i % 20);
            reads(checks, n.toString(), "fault 1");
            reads(checks, "0x" + n.toString(16), "fault 1");
            reads(checks, "0b" + n.toString(2), "fault 1");
        }
        reads(checks, "9".repeat(1024), "fault 1");
        reads(checks, "1" + "0".repeat(1023), "fault 1");
    }

    private static void wraps(Checks checks) {
        reads(checks, "9223372036854775807", "constant " + Long.MAX_VALUE);
        reads(checks, "9223372036854775808", "constant " + Long.MIN_VALUE);
        reads(checks, "18446744073709551615", "constant -1");
        reads(checks, "0x7fffffffffffffff", "constant " + Long.MAX_VALUE);
        reads(checks, "0x8000000000000000", "constant " + Long.MIN_VALUE);
        reads(checks, "0xFFFFffffFFFFffff", "constant -1");
        reads(checks, "0b1" + "0".repeat(63), "constant " + Long.MIN_VALUE);
        reads(checks, "0b" + "1".repeat(64), "constant -1");
        reads(checks, "4294967295", "constant 4294967295");
        reads(checks, "2147483648", "constant 2147483648");
    }

    private static void decimalDigits(Checks checks) {
        for (char c = 0; c < Lines.BYTES; c++) {
            boolean digit = Lines.isOneOf(Lines.DIGITS, c);
            Desk desk = new Desk();
            desk.read("7" + c);
            boolean bad = Lines.isOneOf(Lines.OF_NAMES, c) && !digit;
            checks.due("token of " + Checks.shown("7" + c), desk.token(0, 2), bad ? -1 : digit ? 2 : 1);
            checks.due("worth of " + Checks.shown("7" + c), desk.token(0, 3), bad ? -1 : digit ? 70 + c - '0' : 7);
        }
        for (int i = 0; i <= 9; i++) {
            reads(checks, "" + i, "constant " + i);
            reads(checks, "0" + i, "constant " + i);
        }
    }

    private static void manyDigits(Checks checks) {
        reads(checks, "0".repeat(1024), "constant 0");
        reads(checks, "0".repeat(1004) + "18446744073709551615", "constant -1");
        reads(checks, "0".repeat(1004) + "18446744073709551616", "fault 1");
        reads(checks, "0x" + "0".repeat(1006) + "f".repeat(16), "constant -1");
        reads(checks, "0x" + "0".repeat(1005) + "1" + "0".repeat(16), "fault 1");
        reads(checks, "0b" + "0".repeat(958) + "1".repeat(64), "constant -1");
        reads(checks, "0b" + "0".repeat(957) + "1" + "0".repeat(64), "fault 1");
    }

    private static void hexadecimalDigits(Checks checks) {
        String digits = "0123456789abcdef";
        for (char c = 0; c < Lines.BYTES; c++) {
            int worth = digits.indexOf(c) >= 0 ? digits.indexOf(c) : digits.toUpperCase().indexOf(c);
            reads(checks, "0x" + c, worth < 0 ? "fault 1" : "constant " + worth);
            boolean ends = !Lines.isOneOf(Lines.OF_NAMES, c);
            Desk desk = new Desk();
            desk.read("0x1" + c);
            checks.due("worth of " + Checks.shown("0x1" + c), desk.token(0, 3), worth >= 0 ? 16 + worth : ends ? 1 : -1);
        }
        reads(checks, "0x0123456789abcdef", "constant " + 0x0123456789abcdefL);
        reads(checks, "0xFEDCBA9876543210", "constant " + 0xfedcba9876543210L);
        reads(checks, "0xaBcDeF", "constant " + 0xabcdef);
        reads(checks, "0X1", "fault 1");
        reads(checks, "00x1", "fault 1");
        reads(checks, "1x1", "fault 1");
    }

    private static void binaryDigits(Checks checks) {
        for (char c = 0; c < Lines.BYTES; c++) {
            boolean digit = c == '0' || c == '1';
            reads(checks, "0b" + c, digit ? "constant " + (c - '0') : "fault 1");
            boolean ends = !Lines.isOneOf(Lines.OF_NAMES, c);
            Desk desk = new Desk();
            desk.read("0b1" + c);
            checks.due("worth of " + Checks.shown("0b1" + c), desk.token(0, 3), digit ? 2 + c - '0' : ends ? 1 : -1);
        }
        reads(checks, "0b101101", "constant 45");
        reads(checks, "0B1", "fault 1");
        reads(checks, "00b1", "fault 1");
        reads(checks, "1b1", "fault 1");
    }

    private static void noDigits(Checks checks) {
        for (String line : new String[] {"0x", "0b", "0x ", "0b ", "0x;", "0b;1", "0x+1", "0b-1", "0x'a'", "0b\"1\"", "1+0x", "(0b)", "0x,"}) {
            reads(checks, line, "fault 1");
        }
        Desk desk = new Desk();
        desk.read("1 0x");
        checks.due("tokens ahead of 0x", desk.tokens(), "2:0-1:1");
        reads(checks, "0", "constant 0");
    }

    private static void characters(Checks checks) {
        for (char c = 0; c < Lines.BYTES; c++) {
            boolean one = Lines.isPrintable(c) && c != '\'' && c != '\\';
            reads(checks, "'" + c + "'", one ? "constant " + (int) c : "fault 1");
        }
        Desk desk = new Desk();
        desk.read("'a''b' '\\n'");
        checks.due("tokens of characters", desk.tokens(), "2:0-3:97 2:3-6:98 2:7-11:10");
    }

    private static void badCharacters(Checks checks) {
        String[] lines = {"'", "''", "'''", "''''", "'a", "'ab'", "'ab", "a'", "'a\"", "\"a'", "'  '", "'\\", "'\\'", "'\\n", "'\\nn'",
            "'a\\'", "'\\\\", "';", "'a;'", "'a'b'", "1+'"};
        for (String line : lines) {
            reads(checks, line, "fault 1");
        }
        reads(checks, " ".repeat(1021) + "'a'", "constant 97");
        reads(checks, " ".repeat(1022) + "'a", "fault 1");
        reads(checks, " ".repeat(1023) + "'", "fault 1");
        reads(checks, " ".repeat(1020) + "'\\n'", "constant 10");
        reads(checks, " ".repeat(1021) + "'\\n", "fault 1");
        reads(checks, " ".repeat(1022) + "'\\", "fault 1");
    }

    private static void escapes(Checks checks) {
        for (char c = 0; c < Lines.BYTES; c++) {
            int worth = c == 'n' ? 10 : c == 't' ? 9 : c == '0' ? 0 : c;
            reads(checks, "'\\" + c + "'", Lines.isPrintable(c) ? "constant " + worth : "fault 1");
        }
        // Unlike other languages': no number behind a \ and no other letter has a meaning.
        reads(checks, "'\\00'", "fault 1");
        reads(checks, "'\\x41'", "fault 1");
        reads(checks, "'\\r'", "constant 114");
        reads(checks, "'\\N'", "constant 78");
        reads(checks, "'\\T'", "constant 84");
    }

    private static void behind(Checks checks) {
        String[] numbers = {"7", "0", "0x7", "0b1", "'a'", "'\\n'", "18446744073709551615"};
        for (String number : numbers) {
            for (char c = 0; c < Lines.BYTES; c++) {
                String line = number + c;
                Desk desk = new Desk();
                desk.read(line);
                boolean of = Lines.isOneOf(Lines.OF_NAMES, c);
                if (!of) {
                    checks.due("token of " + Checks.shown(line), desk.tokens().startsWith("2:0-" + number.length() + ":"), true);
                } else if (number.startsWith("'") || "gG_.zZ".indexOf(c) >= 0) {
                    checks.due("tokens of " + Checks.shown(line), desk.tokens(), "");
                    checks.due("read of " + Checks.shown(line), desk.read(line), "fault 1");
                }
            }
        }
        for (String line : new String[] {"5a", "5_", "5.", "5.5", "1e5", "0a", "0xfg", "0x1.", "0x1x", "0b12", "0b1b", "5n+1", "'a'5", "'a'a"}) {
            reads(checks, line, "fault 1");
        }
    }
}
