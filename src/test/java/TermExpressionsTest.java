import java.util.List;

/** The document's term EXPRESSIONS. */
public final class TermExpressionsTest {
    private static final long[] NUMBERS = {1, 2, 3, 5, 6, 7, 12, 40, 100, 1000};
    /** Two signs next to each other that come to the same, whichever is taken first. */
    private static final List<String> ALIKE = List.of("| |", "^ ^", "& &", "+ +", "+ -", "* *", "* <<");

    public static void main(String[] args) {
        Sentences all = new Sentences("Terms, EXPRESSIONS");
        all.holds("from what binds least: every two signs, in both orders", TermExpressionsTest::bindsInOrder);
        all.holds("equal ones from the left to the right", TermExpressionsTest::fromTheLeft);
        all.holds("- ~ + in front bind most", TermExpressionsTest::inFront);
        all.holds("- ~ + in front: as many as a line has room for", TermExpressionsTest::manyInFront);
        all.holds("( ) around: they bind first", TermExpressionsTest::around);
        all.holds("( ) around: as deep as a line has room for", TermExpressionsTest::deep);
        all.holds("( ) around: empty ones, and one without the other", TermExpressionsTest::badBrackets);
        all.holds("signs between two, and as many as a line has room for", TermExpressionsTest::manyBetween);
        all.holds("of NUMBERS, NAMES and $, and of nothing else", TermExpressionsTest::operands);
        all.holds("of NAMES that are not BARRED", TermExpressionsTest::barred);
        all.holds("shifts are by the lowest 6 bits", TermExpressionsTest::shifts);
        all.holds(">> without a sign", TermExpressionsTest::shiftsWithoutSign);
        all.holds("/ and % go towards 0, with signs", TermExpressionsTest::divides);
        all.holds("all wraps", TermExpressionsTest::wraps);
        all.end();
    }

    private static void reads(Checks checks, String line, String due) {
        checks.due("read of " + Checks.shown(line), Desk.withNames().read(line), due);
    }

    private static void reads(Checks checks, String line, long due) {
        reads(checks, line, "constant " + due);
    }

    private static long worth(String sign, long x, long y) {
        switch (sign) {
            case "|":
                return x | y;
            case "^":
                return x ^ y;
            case "&":
                return x & y;
            case "<<":
                return x << y;
            case ">>":
                return x >>> y;
            case "+":
                return x + y;
            case "-":
                return x - y;
            case "*":
                return x * y;
            case "/":
                return y == 0 ? -1 : x / y;
            default:
                return y == 0 ? -1 : x % y;
        }
    }

    private static void bindsInOrder(Checks checks) {
        for (int low = 0; low < Lines.BETWEEN.length; low++) {
            for (int high = low + 1; high < Lines.BETWEEN.length; high++) {
                for (String less : Lines.BETWEEN[low]) {
                    for (String more : Lines.BETWEEN[high]) {
                        groups(checks, less, more, false);
                        groups(checks, more, less, true);
                    }
                }
            }
        }
        reads(checks, "1|2^3&4<<5+6*-7", 1 | 2 ^ 3 & 4L << (5 + 6 * -7));
        reads(checks, "-7*6+5<<4&3^2|1", -37 << 4 & 3 ^ 2 | 1);
    }

    private static void fromTheLeft(Checks checks) {
        for (String[] equal : Lines.BETWEEN) {
            for (String first : equal) {
                for (String second : equal) {
                    groups(checks, first, second, true);
                }
            }
        }
        reads(checks, "100-50-25-5", 20);
        reads(checks, "1000/10/5/2", 10);
        reads(checks, "2*9%5*3/2", 4);
        reads(checks, "1<<4>>2<<3", 32);
    }

    /** Some numbers for which it matters whether the first two are taken first, or the last two. */
    private static void groups(Checks checks, String first, String second, boolean fromLeft) {
        int told = 0;
        for (long x : NUMBERS) {
            for (long y : NUMBERS) {
                for (long z : NUMBERS) {
                    long left = worth(second, worth(first, x, y), z);
                    long right = worth(first, x, worth(second, y, z));
                    if (left != right && told < 3 && !dividesByNone(first, worth(second, y, z))) {
                        reads(checks, x + first + y + second + z, fromLeft ? left : right);
                        told++;
                    }
                }
            }
        }
        checks.due("numbers tell in which order " + first + " and " + second + " are taken", told > 0, !ALIKE.contains(first + " " + second));
    }

    private static boolean dividesByNone(String sign, long y) {
        return y == 0 && (sign.equals("/") || sign.equals("%"));
    }

    private static void inFront(Checks checks) {
        for (String[] equal : Lines.BETWEEN) {
            for (String sign : equal) {
                reads(checks, "-9" + sign + "3", worth(sign, -9, 3));
                reads(checks, "~9" + sign + "3", worth(sign, ~9, 3));
                reads(checks, "+9" + sign + "3", worth(sign, 9, 3));
                reads(checks, "9" + sign + "-3", worth(sign, 9, -3));
                reads(checks, "9" + sign + "~3", worth(sign, 9, ~3));
                reads(checks, "9" + sign + "+3", worth(sign, 9, 3));
            }
        }
        reads(checks, "-5", -5);
        reads(checks, "~5", -6);
        reads(checks, "+5", 5);
        reads(checks, "-~5", 6);
        reads(checks, "~-5", 4);
        reads(checks, "- - 5", 5);
        reads(checks, "~~5", 5);
        reads(checks, "-+~+5", 6);
        reads(checks, "2--3", 5);
        reads(checks, "2++3", 5);
        reads(checks, "2+-+3", -1);
        reads(checks, "-(2+3)", -5);
        reads(checks, "-five*2", -10);
        reads(checks, "-0", 0);
        reads(checks, "~0", -1);
    }

    private static void manyInFront(Checks checks) {
        reads(checks, "-".repeat(1023) + "1", -1);
        reads(checks, "-".repeat(1022) + "10", 10);
        reads(checks, "~".repeat(1023) + "1", -2);
        reads(checks, "+".repeat(1023) + "$", "place -2 + 0");
        reads(checks, "-~".repeat(511) + "10", 10 + 511);
        reads(checks, "-".repeat(1024), "fault 2");
    }

    private static void around(Checks checks) {
        reads(checks, "(5)", 5);
        reads(checks, "((5))", 5);
        reads(checks, "2*(3+4)", 14);
        reads(checks, "(2+3)*4", 20);
        reads(checks, "10-(3-2)", 9);
        reads(checks, "(1|2)&(4|6)", 2);
        reads(checks, "100/(10/5)", 50);
        reads(checks, "1<<(2<<1)", 16);
        reads(checks, "(1+(2*(3+(4*5))))", 47);
        reads(checks, "((((1+2)*3)+4)*5)", 65);
        reads(checks, "(a)", "place 0 + 0");
        reads(checks, "($)-(a)", "span -2 - 0 + 0");
    }

    private static void deep(Checks checks) {
        reads(checks, "(".repeat(511) + "10" + ")".repeat(511), 10);
        reads(checks, "(".repeat(511) + "7" + ")".repeat(511) + " ", 7);
        reads(checks, "(".repeat(512) + "1" + ")".repeat(511), "fault 2");
        reads(checks, "(".repeat(511) + "1" + ")".repeat(512), "fault 2");
        reads(checks, "1-(".repeat(255) + "1" + ")".repeat(255), 0);
        reads(checks, "(1+".repeat(255) + "1" + ")".repeat(255), 256);
        reads(checks, "-(".repeat(341) + "1" + ")".repeat(341), -1);
        reads(checks, "~-(".repeat(255) + "1" + ")".repeat(255), 1 - 255);
        reads(checks, "1|2^3&4<<5+6*(".repeat(68) + "0" + ")".repeat(68), 3);
        reads(checks, "1+(".repeat(255) + "a" + ")".repeat(255), "place 0 + 255");
        reads(checks, "(".repeat(255) + "a" + "+1)".repeat(255), "place 0 + 255");
        reads(checks, "(".repeat(1024), "fault 2");
        reads(checks, ")".repeat(1024), "fault 2");
        reads(checks, "1+" + "(".repeat(1022), "fault 2");
    }

    private static void badBrackets(Checks checks) {
        for (String line : new String[] {"()", "(())", "( )", "1+()", "()1", "()+1", "(", ")", "(1", "1)", ")1(", "(1))", "((1)", "(1)(2)",
            "2(3)", "(3)2", "(1+)", "(+)", "(*1)", "(1,2)", "a(1)", "$(1)", "[1]", "(1]", "[1)", "()()", ")(",
            "1)+(2", "1)*(2", "(1))+((2)", "1)-(a", "(1)+2)*(3", "a)(b"}) {
            reads(checks, line, "fault 2");
        }
    }

    private static void manyBetween(Checks checks) {
        reads(checks, "1" + "+1".repeat(511), 512);
        reads(checks, "1" + "+1".repeat(511) + "+", "fault 2");
        reads(checks, "1" + "-1".repeat(511), -510);
        reads(checks, "a" + "+1".repeat(511), "place 0 + 511");
        reads(checks, "3" + "<<0".repeat(341), 3);
        reads(checks, "1" + "*3".repeat(511), power(3, 511));
        for (String[] equal : Lines.BETWEEN) {
            for (String sign : equal) {
                reads(checks, "1" + sign, "fault 2");
                reads(checks, "1" + sign + sign + "1", sign.equals("+") ? "constant 2" : sign.equals("-") ? "constant 2" : "fault 2");
                boolean front = sign.equals("+") || sign.equals("-");
                reads(checks, sign + "1", front ? "constant " + sign.replace("+", "") + "1" : "fault 2");
                reads(checks, sign, "fault 2");
                reads(checks, "(1" + sign + ")", "fault 2");
            }
        }
        reads(checks, "1~2", "fault 2");
        reads(checks, "1~", "fault 2");
        reads(checks, "1*~", "fault 2");
    }

    private static long power(long of, int times) {
        long all = 1;
        for (int i = 0; i < times; i++) {
            all *= of;
        }
        return all;
    }

    private static void operands(Checks checks) {
        reads(checks, "1", 1);
        reads(checks, "'a'", 97);
        reads(checks, "five", 5);
        reads(checks, "a", "place 0 + 0");
        reads(checks, "$", "place -2 + 0");
        for (String line : new String[] {"", " ", ";", "; 1", "\"a\"", "\"\"", "1+\"a\"", "\"a\"+1", "(\"a\")", "-\"a\"",
            ",", ":", "[", "]", "1,2", "1,",
            "1:", ":1", "1[", "a[1]", "1 2", "1 a", "a 1", "a b", "a a", "$$", "$ 1", "1$", "a$", "$a",
            "'a''b'", "a\"b\"", "1 2 3", "a 1 b", "1 \"a\" 2", "1 + 2 3",
            "-", "~", "+", "- -", "*", "$+", "five five"}) {
            reads(checks, line, "fault 2");
        }
    }

    private static void barred(Checks checks) {
        for (String line : new String[] {"r", "r+1", "1+r", "(r)", "-r", "~r", "+r", "1-(2*r)", "r r", "r-r", "a-r", "1 r", "r*0", "0*r"}) {
            reads(checks, line, "fault 2");
        }
        reads(checks, "rr", "fault 3");
        reads(checks, "R", "fault 3");
        reads(checks, "r.", "fault 3");
        reads(checks, "1 ; r", 1);
        reads(checks, "'r'", 114);
    }

    private static void shifts(Checks checks) {
        long x = 0x8123456789abcdefL;
        for (long by : new long[] {0, 1, 31, 32, 33, 62, 63, 64, 65, 127, 128, 255, 256, 4096, 1L << 32, (1L << 32) + 1, Long.MAX_VALUE}) {
            int lowest = (int) (by % 64);
            reads(checks, "0x8123456789abcdef<<" + by, x << lowest);
            reads(checks, "0x8123456789abcdef>>" + by, x >>> lowest);
        }
        reads(checks, "1<<63", Long.MIN_VALUE);
        reads(checks, "1<<64", 1);
        reads(checks, "1<<-1", Long.MIN_VALUE);
        reads(checks, "1<<-63", 2);
        reads(checks, "1<<-64", 1);
        reads(checks, "8>>-62", 2);
        reads(checks, "1<<0x8000000000000000", 1);
        reads(checks, "1<<18446744073709551615", Long.MIN_VALUE);
    }

    private static void shiftsWithoutSign(Checks checks) {
        reads(checks, "-1>>0", -1);
        reads(checks, "-1>>1", Long.MAX_VALUE);
        reads(checks, "-1>>32", 0xffffffffL);
        reads(checks, "-1>>63", 1);
        reads(checks, "-1>>64", -1);
        reads(checks, "-8>>2", 0x3ffffffffffffffeL);
        reads(checks, "0x8000000000000000>>63", 1);
    }

    private static void divides(Checks checks) {
        reads(checks, "7/2", 3);
        reads(checks, "-7/2", -3);
        reads(checks, "7/-2", -3);
        reads(checks, "-7/-2", 3);
        reads(checks, "7%2", 1);
        reads(checks, "-7%2", -1);
        reads(checks, "7%-2", 1);
        reads(checks, "-7%-2", -1);
        reads(checks, "1/2", 0);
        reads(checks, "-1/2", 0);
        reads(checks, "6/-3", -2);
        reads(checks, "-6%3", 0);
        reads(checks, "18446744073709551615/2", 0);
        reads(checks, "18446744073709551615%2", -1);
        reads(checks, "0x8000000000000000/2", Long.MIN_VALUE / 2);
        reads(checks, "0x8000000000000000%10", -8);
        reads(checks, "1/0x8000000000000000", 0);
    }

    private static void wraps(Checks checks) {
        reads(checks, "0x7fffffffffffffff+1", Long.MIN_VALUE);
        reads(checks, "18446744073709551615+1", 0);
        reads(checks, "0x8000000000000000-1", Long.MAX_VALUE);
        reads(checks, "0-1", -1);
        reads(checks, "0-0x8000000000000000", Long.MIN_VALUE);
        reads(checks, "-0x8000000000000000", Long.MIN_VALUE);
        reads(checks, "0x8000000000000000*-1", Long.MIN_VALUE);
        reads(checks, "0x8000000000000000/-1", Long.MIN_VALUE);
        reads(checks, "0x8000000000000000%-1", 0);
        reads(checks, "0x100000000*0x100000000", 0);
        reads(checks, "0x7fffffffffffffff*0x7fffffffffffffff", 1);
        reads(checks, "0x100000001*0x100000001", 0x200000001L);
        reads(checks, "3<<63", Long.MIN_VALUE);
        reads(checks, "0xffffffff+1", 0x100000000L);
        reads(checks, "0x7fffffff+1", 0x80000000L);
        reads(checks, "a+0x7fffffffffffffff+1", "place 0 + " + Long.MIN_VALUE);
        reads(checks, "a-0x7fffffffffffffff-2", "place 0 + " + Long.MAX_VALUE);
        reads(checks, "(a+0x8000000000000000)-(b+1)", "span 0 - 1 + " + Long.MAX_VALUE);
        reads(checks, "a-b+0x7fffffffffffffff+1", "span 0 - 1 + " + Long.MIN_VALUE);
    }
}
