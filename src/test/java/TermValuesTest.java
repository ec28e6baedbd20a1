/** The document's terms VALUE, CONSTANT, PLACE, SPAN and ODD. */
public final class TermValuesTest {
    /** Expressions of each kind, without a sign outside of brackets. */
    private static final String[] CONSTANTS = {"3", "five", "zero", "(1-2)"};
    private static final String[] PLACES = {"a", "b", "$", "(a+1)", "(a-1)"};
    private static final String[] SPANS = {"(a-b)", "(a-a)", "($-a+1)", "(b-$)"};

    public static void main(String[] args) {
        Sentences all = new Sentences("Terms, VALUE");
        all.holds("a NAME is a CONSTANT or has a place 0, 1, ..", TermValuesTest::names);
        all.holds("$ has the place -2", TermValuesTest::dollar);
        all.holds("+ adds a CONSTANT to anything", TermValuesTest::addsConstants);
        all.holds("+ adds nothing but a CONSTANT: the value is ODD else", TermValuesTest::addsNothingElse);
        all.holds("- takes a CONSTANT off anything", TermValuesTest::takesConstants);
        all.holds("- takes a PLACE off a PLACE: a SPAN", TermValuesTest::takesPlaces);
        all.holds("- takes off nothing else: the value is ODD else", TermValuesTest::takesNothingElse);
        all.holds("in front, + leaves all as it is", TermValuesTest::plusInFront);
        all.holds("in front, - and ~ are of CONSTANTS alone: the value is ODD else", TermValuesTest::othersInFront);
        all.holds("all else is of CONSTANTS alone: the value is ODD else", TermValuesTest::othersBetween);
        all.holds("/ and % not by 0: the value is ODD else", TermValuesTest::notByNone);
        all.holds("/ and % by all but 0", TermValuesTest::byAllElse);
        all.holds("what is ODD in a part is ODD in all", TermValuesTest::oddParts);
        all.end();
    }

    private static void reads(Checks checks, String line, String due) {
        checks.due("read of " + Checks.shown(line), Desk.withNames().read(line), due);
    }

    private static void odd(Checks checks, String... lines) {
        for (String line : lines) {
            reads(checks, line, "fault 4");
        }
    }

    private static void oddBetween(Checks checks, String[] lefts, String sign, String[] rights) {
        for (String left : lefts) {
            for (String right : rights) {
                odd(checks, left + sign + right);
            }
        }
    }

    private static void names(Checks checks) {
        reads(checks, "a", "place 0 + 0");
        reads(checks, "b", "place 1 + 0");
        reads(checks, "five", "constant 5");
        reads(checks, "zero", "constant 0");
        Desk desk = new Desk();
        for (int i = 0; i < 20; i++) {
            desk.place("n" + i);
        }
        for (int i = 0; i < 20; i++) {
            checks.due("read of name " + i, desk.read("n" + i), "place " + i + " + 0");
        }
    }

    private static void dollar(Checks checks) {
        checks.due("$ ahead of all names", new Desk().read("$"), "place -2 + 0");
        reads(checks, "$", "place -2 + 0");
        reads(checks, "$+7", "place -2 + 7");
        reads(checks, "$-a", "span -2 - 0 + 0");
        reads(checks, "a-$", "span 0 - -2 + 0");
        reads(checks, "$-$", "span -2 - -2 + 0");
    }

    private static void addsConstants(Checks checks) {
        reads(checks, "3+five", "constant 8");
        reads(checks, "a+4", "place 0 + 4");
        reads(checks, "4+a", "place 0 + 4");
        reads(checks, "a+zero", "place 0 + 0");
        reads(checks, "1+$+2", "place -2 + 3");
        reads(checks, "2*3+b", "place 1 + 6");
        reads(checks, "(b+1)+2", "place 1 + 3");
        reads(checks, "1+(b+2)", "place 1 + 3");
        reads(checks, "(a-b)+7", "span 0 - 1 + 7");
        reads(checks, "7+(a-b)", "span 0 - 1 + 7");
        reads(checks, "(a-b+1)+(2)", "span 0 - 1 + 3");
        reads(checks, "(2)+(a-b+1)", "span 0 - 1 + 3");
    }

    private static void addsNothingElse(Checks checks) {
        oddBetween(checks, PLACES, "+", PLACES);
        oddBetween(checks, PLACES, "+", SPANS);
        oddBetween(checks, SPANS, "+", PLACES);
        oddBetween(checks, SPANS, "+", SPANS);
    }

    private static void takesConstants(Checks checks) {
        reads(checks, "3-five", "constant -2");
        reads(checks, "a-4", "place 0 + -4");
        reads(checks, "$-zero", "place -2 + 0");
        reads(checks, "a+1-3", "place 0 + -2");
        reads(checks, "a-b-7", "span 0 - 1 + -7");
        reads(checks, "(a-b+1)-(3)", "span 0 - 1 + -2");
    }

    private static void takesPlaces(Checks checks) {
        reads(checks, "a-b", "span 0 - 1 + 0");
        reads(checks, "b-a", "span 1 - 0 + 0");
        reads(checks, "a-a", "span 0 - 0 + 0");
        reads(checks, "(a+1)-(b+5)", "span 0 - 1 + -4");
        reads(checks, "(a-1)-(a-5)", "span 0 - 0 + 4");
        reads(checks, "3+a-b", "span 0 - 1 + 3");
        reads(checks, "a+3-$", "span 0 - -2 + 3");
        reads(checks, "+a-+b", "span 0 - 1 + 0");
    }

    private static void takesNothingElse(Checks checks) {
        oddBetween(checks, CONSTANTS, "-", PLACES);
        oddBetween(checks, CONSTANTS, "-", SPANS);
        oddBetween(checks, PLACES, "-", SPANS);
        oddBetween(checks, SPANS, "-", PLACES);
        oddBetween(checks, SPANS, "-", SPANS);
        odd(checks, "a-b-a", "a-b-b", "a-a-a", "0-a", "0-$");
    }

    private static void plusInFront(Checks checks) {
        reads(checks, "+five", "constant 5");
        reads(checks, "+(0-1)", "constant -1");
        reads(checks, "+a", "place 0 + 0");
        reads(checks, "+$", "place -2 + 0");
        reads(checks, "++(a+1)", "place 0 + 1");
        reads(checks, "+(a-b+2)", "span 0 - 1 + 2");
        reads(checks, "4++a", "place 0 + 4");
    }

    private static void othersInFront(Checks checks) {
        for (String sign : new String[] {"-", "~", "--", "~~", "-~", "+-", "-+", "+~+"}) {
            for (String place : PLACES) {
                odd(checks, sign + place);
            }
            for (String span : SPANS) {
                odd(checks, sign + span);
            }
        }
        reads(checks, "-five", "constant -5");
        reads(checks, "~five", "constant -6");
        odd(checks, "-a+a", "4+-a", "a+-b", "-a-a");
        reads(checks, "a+-4", "place 0 + -4");
        reads(checks, "a-~4", "place 0 + 5");
    }

    private static void othersBetween(Checks checks) {
        for (String sign : new String[] {"|", "^", "&", "<<", ">>", "*", "/", "%"}) {
            oddBetween(checks, CONSTANTS, sign, PLACES);
            oddBetween(checks, CONSTANTS, sign, SPANS);
            oddBetween(checks, PLACES, sign, CONSTANTS);
            oddBetween(checks, PLACES, sign, PLACES);
            oddBetween(checks, PLACES, sign, SPANS);
            oddBetween(checks, SPANS, sign, CONSTANTS);
            oddBetween(checks, SPANS, sign, PLACES);
            oddBetween(checks, SPANS, sign, SPANS);
            odd(checks, "a" + sign + "1", "1" + sign + "a", "(a-b)" + sign + "1", "a+1" + sign + "$");
        }
        odd(checks, "0*a", "a*0", "a&0", "0|a", "a<<0", "a/1", "a-b*1", "a-1*b");
    }

    private static void notByNone(Checks checks) {
        odd(checks, "1/0", "1%0", "0/0", "0%0", "five/zero", "five%zero", "1/-0", "1%(2-2)", "1/(1/2)", "1%(4%2)", "1/0x0", "1%'\\0'");
        odd(checks, "1/(0x100000000*0x100000000)", "1/(0x8000000000000000<<1)", "0x8000000000000000/0", "1/(18446744073709551615+1)", "1/(5&2)");
        odd(checks, "a+1/0", "1/0+a", "a-1/0", "-(1/0)", "+(1%0)");
        odd(checks, "1/(a-a)", "1%(a-a)");
    }

    private static void byAllElse(Checks checks) {
        reads(checks, "0/1", "constant 0");
        reads(checks, "0%1", "constant 0");
        reads(checks, "zero/five", "constant 0");
        reads(checks, "5/-1", "constant -5");
        reads(checks, "5%-1", "constant 0");
        reads(checks, "5/0x100000000", "constant 0");
        reads(checks, "5%0x100000000", "constant 5");
        reads(checks, "5/0x8000000000000000", "constant 0");
        reads(checks, "5/~0", "constant -5");
    }

    private static void oddParts(Checks checks) {
        odd(checks, "(1/0)*0", "0*(1/0)", "1/0-1/0", "1/0|1", "(a+b)-(a+b)", "a+b-b", "a+b-a-b",
                "-a+a", "(a*1)-(a*1)", "1-a+a", "(((1%0)))", "+-a", "a-(1-b)");
    }
}
