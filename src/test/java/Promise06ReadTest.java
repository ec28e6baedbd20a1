/** Promise 6, read. */
public final class Promise06ReadTest {
    private static final String THROWS = "throws.IllegalArgumentException";

    public static void main(String[] args) {
        Sentences all = new Sentences("Promise 6, read");
        all.holds("the line is an expression, an empty one is none", Promise06ReadTest::isExpression);
        all.holds("of products alone, only * / % stand outside of brackets", Promise06ReadTest::productsAlone);
        all.holds("of products alone, no other sign stands outside of brackets", Promise06ReadTest::noOtherOutside);
        all.holds("of products alone, - ~ + may stand in front", Promise06ReadTest::inFrontOfProducts);
        all.holds("of products alone, all may stand in brackets", Promise06ReadTest::insideOfBrackets);
        all.holds("not of products alone, all may stand outside of brackets", Promise06ReadTest::allOutside);
        all.holds("what it is: 0 a CONSTANT", checks -> kinds(checks, "0", "0", "5", "five", "zero", "1-1", "-5", "(5)", "'a'"));
        all.holds("what it is: 1 a PLACE", checks -> kinds(checks, "1", "a", "b", "$", "a+1", "1+a", "a-1", "+a", "(a)", "$-5"));
        all.holds("what it is: 2 a SPAN", checks -> kinds(checks, "2", "a-b", "a-a", "$-$", "a-b+1", "1+(a-b)", "a-$-1", "+(a-b)"));
        all.holds("IllegalArgumentException: it has a fault, each of them", Promise06ReadTest::throwsFaults);
        all.end();
    }

    private static void kinds(Checks checks, String due, String... lines) {
        for (String line : lines) {
            checks.due("read of " + line, Desk.withNames().readKind(line, false), due);
        }
    }

    private static void isExpression(Checks checks) {
        checks.due("read of an expression", new Desk().readKind("1+2*(3-4)", false), "0");
        for (boolean products : new boolean[] {false, true}) {
            for (String line : new String[] {"", " ", "\t", ";", ";1", "()", "1 2", "+"}) {
                checks.due("read of " + Checks.shown(line), new Desk().readKind(line, products), THROWS);
            }
        }
        Desk twice = new Desk();
        checks.due("the first read", twice.readKind("1", false), "0");
        checks.due("a second one of the same line", twice.readKind("", false), THROWS);
    }

    private static void products(Checks checks, String line, String due) {
        checks.due("read of products " + Checks.shown(line), Desk.withNames().read(line, true), due);
    }

    private static void productsAlone(Checks checks) {
        products(checks, "5", "constant 5");
        products(checks, "2*3", "constant 6");
        products(checks, "7/2", "constant 3");
        products(checks, "7%4", "constant 3");
        products(checks, "7*6/4%5", "constant 0");
        products(checks, "five*five", "constant 25");
        products(checks, "a", "place 0 + 0");
        products(checks, "$", "place -2 + 0");
        products(checks, "1" + "*1".repeat(511), "constant 1");
        products(checks, "5 ; + 1", "constant 5");
        products(checks, "'+'", "constant 43");
        products(checks, "a*2", "fault 4");
        products(checks, "1/0", "fault 4");
        products(checks, "nope*2", "fault 3");
    }

    private static void noOtherOutside(Checks checks) {
        for (String sign : new String[] {"|", "^", "&", "<<", ">>", "+", "-"}) {
            products(checks, "1" + sign + "2", "fault 2");
            products(checks, "(1)" + sign + "(2)", "fault 2");
            products(checks, "2*3" + sign + "4", "fault 2");
            products(checks, "4" + sign + "2*3", "fault 2");
            products(checks, "(1+2)*3" + sign + "-4", "fault 2");
            products(checks, "(1)" + sign + "2", "fault 2");
            products(checks, "a" + sign + "1", "fault 2");
            products(checks, "nope" + sign + "1", "fault 2");
            products(checks, "1/0" + sign + "1", "fault 2");
            products(checks, "1" + sign, "fault 2");
        }
        products(checks, "((1)+2)*3+4", "fault 2");
        products(checks, "1+@", "fault 1");
        for (String line : new String[] {"*1", "1*", "1**2", "1 2", "(1", "1)", "r", "1*r", "\"a\"", "1,2", "~"}) {
            products(checks, line, "fault 2");
        }
    }

    private static void inFrontOfProducts(Checks checks) {
        products(checks, "-5", "constant -5");
        products(checks, "~5", "constant -6");
        products(checks, "+5", "constant 5");
        products(checks, "-~+5", "constant 6");
        products(checks, "2*-3", "constant -6");
        products(checks, "-7/+2%~1", "constant -1");
        products(checks, "-(1+2)*-(3)", "constant 9");
        products(checks, "-".repeat(1023) + "1", "constant -1");
        products(checks, "+a", "place 0 + 0");
        products(checks, "-a", "fault 4");
    }

    private static void insideOfBrackets(Checks checks) {
        for (String sign : new String[] {"|", "^", "&", "<<", ">>", "+", "-", "*", "/", "%"}) {
            String inside = "(9" + sign + "2)";
            String due = new Desk().read("9" + sign + "2");
            products(checks, inside, due);
            products(checks, "(" + inside + ")", due);
            products(checks, "1*" + inside, due);
            products(checks, inside + "*1", due);
        }
        products(checks, "(1+2)*(3|4)", "constant 21");
        products(checks, "((1)+(2))", "constant 3");
        products(checks, "(a-b+1)", "span 0 - 1 + 1");
        products(checks, "(a+4)", "place 0 + 4");
        products(checks, "(2*(1+(2-1)))*3", "constant 12");
    }

    private static void allOutside(Checks checks) {
        for (String sign : new String[] {"|", "^", "&", "<<", ">>", "+", "-", "*", "/", "%"}) {
            checks.due("read of 9" + sign + "2", new Desk().readKind("9" + sign + "2", false), "0");
        }
    }

    private static void throwsFaults(Checks checks) {
        for (boolean products : new boolean[] {false, true}) {
            for (String line : new String[] {"@", "0x", "1 \u00ff", "", "1*", "r", "nope", "nope*1", "1/0", "a*1", "-a", "(a+b)"}) {
                checks.due("read of " + Checks.shown(line), Desk.withNames().readKind(line, products), THROWS);
            }
        }
    }
}
