/** Promise 7: the first fault that holds of the latest read. */
public final class FaultTest {
    private static final Checks CHECKS = new Checks("fault");

    public static void main(String[] args) {
        findsFaultsOfTokens();
        findsWhatIsNoExpression();
        findsUnknownNames();
        findsOddValues();
        tellsTheFirst();
        tellsOfTheLatestRead();
        CHECKS.end();
    }

    private static void faults(int due, String... lines) {
        for (String line : lines) {
            Desk desk = new Desk();
            desk.place("a");
            desk.place("b");
            desk.bar("r");
            desk.constant("zero", 0);
            CHECKS.due("read of " + line, desk.read(line), "fault " + due);
        }
    }

    private static void findsFaultsOfTokens() {
        faults(1, "@", "1 @", "{", "}", "!", "#", "=", "?", "`", "\\", "<", ">", "1<2", "1>2", "1< <2", "1<<<2", "1>>>2");
        faults(1, "\u0000", "1\n", "1\r", "1\u007f", "1\u0080", "1\u00ff", "1\u001f", "a\u000b");
        faults(1, "0x", "0b", "0X1", "0B1", "0xg", "0b2", "0b12", "0x1g", "0x1.", "5a", "5_", "5.", "5.5", "0a", "00x1", "1x");
        faults(1, "18446744073709551616", "18446744073709551620", "99999999999999999999", "018446744073709551616");
        faults(1, "0x10000000000000000", "0b1" + "0".repeat(64), "36893488147419103232");
        faults(1, "'", "''", "'''", "'a", "'ab'", "'\\", "'\\'", "'\\n", "'\t'", "'\\\t'", "'\u007f'", "'\\\u007f'", "'a\"");
        faults(1, "'a'b", "'a'1", "'a'_", "'a'.", "';", "'a;'", "'\\nn'", "'\u001f'", "'\\\u001f'", "\"\u001f\"");
        faults(1, "\"", "\"a", "\"a\\\"", "\"\t\"", "\"a\\\t\"", "\"\u007f\"", "\"\u00e9\"", "\"a;b");
        faults(1, "n".repeat(64), "1+" + "n".repeat(64), ".".repeat(64));
    }

    private static void findsWhatIsNoExpression() {
        faults(2, "", " \t", "; 1", "()", "(", ")", "(1", "1)", ")1(", "1 2", "a b", "1 a", "$$", "$a", "1$", "(1)(2)", "2(3)", "1 2 3", "a 1 b", "1 (2)", "1 \"a\" 2");
        faults(2, "+", "1+", "*1", "1*", "/", "1//2", "1+*2", "|1", "1|", "&1", "^1", "<<1", "1<<", "%1", "1<<>>2", "1~", "1~2");
        faults(2, "-", "~", "(-)", "(1+)", "1,2", "1:", "[1]", "1[", "]", ",", "\"a\"", "\"\"", "1+\"a\"", "'a''b'", "a\"b\"");
        faults(2, "r", "r+1", "1+r", "(r)", "-r", "1 r", "r r", "1-(2*r)");
    }

    private static void findsUnknownNames() {
        faults(3, "n", "A", "aa", "_", ".", ".5", "n".repeat(63), "1+n", "n*0", "(n)", "-n", "a-n", "zero.", "rr", "x1 ; a");
    }

    private static void findsOddValues() {
        faults(4, "a+b", "a+$", "$+$", "a-b+a", "a+(a-b)", "(a-b)+(a-b)", "a-b-a", "a-(a-b)", "(a-b)-(a-b)", "1-a", "1-(a-b)", "zero-$");
        faults(4, "-a", "~a", "-(a-b)", "~$", "-+a", "~(a-a)", "--a");
        faults(4, "a*1", "1*a", "0*a", "a/1", "1/a", "a%2", "2%a", "a&1", "1&a", "a|0", "0|a", "a^0", "0^a", "a<<0", "0<<a", "a>>0", "0>>a");
        faults(4, "(a-b)*1", "1*(a-b)", "(a-a)/1", "(a-b)|1", "$*$", "a&b");
        faults(4, "1/0", "1%0", "0/0", "1/zero", "1%(2-2)", "1/(a-a)", "(1/0)*0", "0*(1/0)", "1/0-1/0", "(a+b)-(a+b)", "a+b-b");
    }

    private static void tellsTheFirst() {
        faults(1, "1 + @", "( @", "n @", "a+b @", "1/0 0x");
        faults(2, "n n", "n+r", "r+n", "n+", "a+b+", "1/0 )", "(1/0", "1/0 r", "n/0(");
        faults(3, "1/0+n", "n+1/0", "a+b+n", "-a*n", "n/0");
    }

    private static void tellsOfTheLatestRead() {
        Desk desk = new Desk();
        desk.read("@");
        CHECKS.due("behind a fault", desk.reader.fault(), 1);
        desk.bar("x");
        desk.place("@");
        desk.constant("x", 1);
        desk.type("1");
        CHECKS.due("behind other calls", desk.reader.fault(), 1);
        desk.read("");
        CHECKS.due("behind an expression", desk.reader.fault(), 0);
        desk.read("x");
        CHECKS.due("behind another fault", desk.reader.fault(), 2);
        desk.read("n");
        CHECKS.due("behind a third", desk.reader.fault(), 3);
        desk.read("1/0");
        CHECKS.due("behind a fourth", desk.reader.fault(), 4);
        CHECKS.due("told twice", desk.reader.fault(), 4);
    }
}
