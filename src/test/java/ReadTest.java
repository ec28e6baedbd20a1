/** Promise 6: the line is an expression, and what it is. */
public final class ReadTest {
    private static final Checks CHECKS = new Checks("read");

    public static void main(String[] args) {
        readsNumbers();
        bindsInOrder();
        worksOutConstants();
        worksOutPlacesAndSpans();
        readsProducts();
        goesDeep();
        emptiesTheLine();
        CHECKS.end();
    }

    private static void reads(String line, String due) {
        Desk desk = new Desk();
        desk.place("a");
        desk.place("b");
        desk.constant("five", 5);
        CHECKS.due("read of " + line, desk.read(line), due);
    }

    private static void readsNumbers() {
        reads("0", "constant 0");
        reads("00012", "constant 12");
        reads("0".repeat(1000) + "9", "constant 9");
        reads("9223372036854775807", "constant 9223372036854775807");
        reads("9223372036854775808", "constant -9223372036854775808");
        reads("18446744073709551615", "constant -1");
        reads("18446744073709551609", "constant -7");
        reads("0x0", "constant 0");
        reads("0xaBcDeF09", "constant " + 0xabcdef09L);
        reads("0xA", "constant 10");
        reads("0xa", "constant 10");
        reads("0xffffffffffffffff", "constant -1");
        reads("0x" + "0".repeat(40) + "8000000000000000", "constant " + Long.MIN_VALUE);
        reads("0b0", "constant 0");
        reads("0b1011", "constant 11");
        reads("0b" + "1".repeat(64), "constant -1");
        reads("0b000" + "1".repeat(64), "constant -1");
        reads("'a'", "constant 97");
        reads("' '", "constant 32");
        reads("'~'", "constant 126");
        reads("'\"'", "constant 34");
        reads("';'", "constant 59");
        reads("'\\n'", "constant 10");
        reads("'\\t'", "constant 9");
        reads("'\\0'", "constant 0");
        reads("'\\''", "constant 39");
        reads("'\\\\'", "constant 92");
        reads("'\\\"'", "constant 34");
        reads("'\\;'", "constant 59");
        reads("'\\N'", "constant 78");
        reads("'\\r'", "constant 114");
        reads("'\\ '", "constant 32");
        reads("'\\~'", "constant 126");
        reads("\t 7\t ;\t' \" \u0000\u007f\u00ff", "constant 7");
    }

    /** Every sign next to the ones that bind just less and just more than it. */
    private static void bindsInOrder() {
        reads("1|3^1", "constant 3");
        reads("3^1|1", "constant 3");
        reads("7^4&2", "constant 7");
        reads("4&2^7", "constant 7");
        reads("6&1<<1", "constant 2");
        reads("1<<1&6", "constant 2");
        reads("6&16>>2", "constant 4");
        reads("1<<1+1", "constant 4");
        reads("1+1<<2", "constant 8");
        reads("8>>1+1", "constant 2");
        reads("2+3*4", "constant 14");
        reads("2*3+4", "constant 10");
        reads("2-6/2", "constant -1");
        reads("9-7%4", "constant 6");
        reads("-2*3", "constant -6");
        reads("2*-3", "constant -6");
        reads("~1*2", "constant -4");
        reads("2--3", "constant 5");
        reads("2-+-~+3", "constant -2");
        reads("- - 3", "constant 3");
        reads("10-3-2", "constant 5");
        reads("10-3+2", "constant 9");
        reads("100/5/2", "constant 10");
        reads("100/5*2", "constant 40");
        reads("7*5%3", "constant 2");
        reads("17%5*3", "constant 6");
        reads("1<<2<<3", "constant 32");
        reads("64>>1<<3", "constant 256");
        reads("256>>2>>3", "constant 8");
        reads("(10-(3-2))", "constant 9");
        reads("2*(3+4)*5", "constant 70");
        reads("-(1+2)", "constant -3");
        reads("~(1|2)&7", "constant 4");
        reads("1|2^3&4<<5+6*7", "constant 3");
    }

    private static void worksOutConstants() {
        reads("7/-2", "constant -3");
        reads("-7/2", "constant -3");
        reads("-7%2", "constant -1");
        reads("7%-2", "constant 1");
        reads("0x8000000000000000/-1", "constant " + Long.MIN_VALUE);
        reads("0x8000000000000000%-1", "constant 0");
        reads("18446744073709551615/2", "constant 0");
        reads("-0x8000000000000000", "constant " + Long.MIN_VALUE);
        reads("0x7fffffffffffffff+1", "constant " + Long.MIN_VALUE);
        reads("0x8000000000000000-1", "constant " + Long.MAX_VALUE);
        reads("0x100000000*0x100000000", "constant 0");
        reads("1<<63", "constant " + Long.MIN_VALUE);
        reads("1<<64", "constant 1");
        reads("1<<-1", "constant " + Long.MIN_VALUE);
        reads("1<<0x100000001", "constant 2");
        reads("-1>>1", "constant " + Long.MAX_VALUE);
        reads("-1>>63", "constant 1");
        reads("-1>>64", "constant -1");
        reads("~0", "constant -1");
        reads("+five", "constant 5");
    }

    private static void worksOutPlacesAndSpans() {
        reads("$", "place -2 + 0");
        reads("b", "place 1 + 0");
        reads("a+4", "place 0 + 4");
        reads("4+a", "place 0 + 4");
        reads("a-4", "place 0 + -4");
        reads("+a", "place 0 + 0");
        reads("++(a+1)", "place 0 + 1");
        reads("2*3+b-five", "place 1 + 1");
        reads("a-b", "span 0 - 1 + 0");
        reads("a-a", "span 0 - 0 + 0");
        reads("(a+1)-(b+5)", "span 0 - 1 + -4");
        reads("a-b+7", "span 0 - 1 + 7");
        reads("7+(a-b)", "span 0 - 1 + 7");
        reads("a-b-7", "span 0 - 1 + -7");
        reads("+(a-b)", "span 0 - 1 + 0");
        reads("$-b", "span -2 - 1 + 0");
        reads("a-$+0x7fffffffffffffff+1", "span 0 - -2 + " + Long.MIN_VALUE);
        reads("a+1-$", "span 0 - -2 + 1");
    }

    private static void readsProducts() {
        String[][] due = {{"5", "constant 5"}, {"a", "place 0 + 0"}, {"2*3", "constant 6"}, {"7/2%2*-1", "constant -1"},
            {"-~+3", "constant 4"}, {"(1+2)", "constant 3"}, {"(1+2)*(3|4)", "constant 21"}, {"((1)<<2)", "constant 4"},
            {"-(a-a)", "fault 4"}, {"+(a-a)", "span 0 - 0 + 0"},
            {"1+2", "fault 2"}, {"1-2", "fault 2"}, {"1|2", "fault 2"}, {"1^2", "fault 2"}, {"1&2", "fault 2"},
            {"1<<2", "fault 2"}, {"1>>2", "fault 2"}, {"2*3+4", "fault 2"}, {"2+3*4", "fault 2"},
            {"(1+2)+3", "fault 2"}, {"1*(2)-(3)", "fault 2"}, {"", "fault 2"}, {"2*", "fault 2"}};
        for (String[] row : due) {
            Desk desk = new Desk();
            desk.place("a");
            CHECKS.due("read of products " + row[0], desk.read(row[0], true), row[1]);
        }
    }

    /** Lines of 1024 bytes that keep as much waiting as can be. */
    private static void goesDeep() {
        reads("(".repeat(511) + "10" + ")".repeat(511), "constant 10");
        reads("(".repeat(512) + "1" + ")".repeat(511), "fault 2");
        reads("-".repeat(1023) + "1", "constant -1");
        reads("~".repeat(1022) + "10", "constant 10");
        reads("1" + "+1".repeat(511), "constant 512");
        reads("1-(".repeat(255) + "1" + ")".repeat(255), "constant 0");
        reads("(1+".repeat(255) + "1" + ")".repeat(255), "constant 256");
        reads("-(".repeat(341) + "1" + ")".repeat(341), "constant -1");
        reads("1|2^3&4<<5+6*(".repeat(68) + "0" + ")".repeat(68), "constant 3");
        reads("1+(".repeat(255) + "a" + ")".repeat(255), "place 0 + 255");
        reads("1+" + "(".repeat(1022), "fault 2");
    }

    private static void emptiesTheLine() {
        Desk desk = new Desk();
        desk.read("1");
        CHECKS.due("behind an expression", desk.read("2"), "constant 2");
        for (String line : new String[] {"@", "3 +", "nope", "1/0"}) {
            desk.read(line);
            CHECKS.due("behind " + line, desk.read("4"), "constant 4");
        }
    }
}
