/** Promise 7, fault. */
public final class Promise07FaultTest {
    private static final String[] TOKENS = {"@", "5a", "0x", "<", "'", "\"", "18446744073709551616", "\u0001"};
    private static final String[] NO_EXPRESSION = {"1 2", "(1", "1)", "1+*2", "r", "()", "\"a\"", "1,2"};
    private static final String[] NOT_KNOWN = {"n", "A", "aa", ".5", "_"};
    private static final String[] ODD = {"1/0", "1%0", "a*1", "(a+b)", "-a", "~$", "(1-a)", "0/zero"};

    public static void main(String[] args) {
        Sentences all = new Sentences("Promise 7, fault");
        all.holds("1 tokens", checks -> faults(checks, 1, TOKENS));
        all.holds("2 it is no expression", checks -> faults(checks, 2, NO_EXPRESSION));
        all.holds("2 it is no expression: an empty line", checks -> faults(checks, 2, "", " ", "\t", ";", "; @"));
        all.holds("3 a NAME that is not known", checks -> faults(checks, 3, NOT_KNOWN));
        all.holds("3 a NAME that is not known, of the longest", checks -> faults(checks, 3, "n".repeat(63), "1+" + "n".repeat(63)));
        all.holds("4 it is ODD", checks -> faults(checks, 4, ODD));
        all.holds("0 for none", Promise07FaultTest::none);
        all.holds("0 for none: ahead of all reads", Promise07FaultTest::noRead);
        all.holds("the first fault that holds: 1 ahead of all", Promise07FaultTest::tokensFirst);
        all.holds("the first fault that holds: 2 ahead of 3 and 4", Promise07FaultTest::noExpressionFirst);
        all.holds("the first fault that holds: 3 ahead of 4", Promise07FaultTest::notKnownFirst);
        all.holds("of the latest read()", Promise07FaultTest::latestRead);
        all.holds("of the latest read(), not of other calls", Promise07FaultTest::otherCalls);
        all.end();
    }

    private static void faults(Checks checks, int due, String... lines) {
        for (String line : lines) {
            checks.due("read of " + Checks.shown(line), Desk.withNames().read(line), "fault " + due);
        }
    }

    private static void none(Checks checks) {
        for (String line : new String[] {"0", "1", "a", "$", "a-b", "five/5", "0*zero"}) {
            Desk desk = Desk.withNames();
            desk.readKind(line, false);
            checks.due("fault behind " + line, desk.fault(), 0);
            desk.readKind("@", false);
            desk.readKind(line, false);
            checks.due("fault behind a fault and " + line, desk.fault(), 0);
        }
    }

    private static void noRead(Checks checks) {
        checks.due("fault of a new object", new Desk().fault(), 0);
        Desk desk = Desk.withNames();
        checks.due("fault behind names", desk.fault(), 0);
        desk.bar("@");
        desk.place("1 2");
        desk.constant("", 1);
        desk.type("@");
        desk.type(0, 9);
        checks.due("fault behind refused calls", desk.fault(), 0);
    }

    private static void tokensFirst(Checks checks) {
        for (String token : TOKENS) {
            for (String[] others : new String[][] {NO_EXPRESSION, NOT_KNOWN, ODD}) {
                for (String other : others) {
                    faults(checks, 1, other + " " + token);
                }
            }
        }
        faults(checks, 1, "@ 1 2", "@ n", "@ 1/0", "( @", "1 + @", "n 1/0 ) @");
    }

    private static void noExpressionFirst(Checks checks) {
        for (String[] others : new String[][] {NOT_KNOWN, ODD}) {
            for (String other : others) {
                faults(checks, 2, other + " 1", "1 (" + other + ")", "(" + other, other + ")", other + "+", other + "+r", "r+" + other, other + "+()",
                        "\"a\" " + other, other + "*,");
            }
        }
        faults(checks, 2, "n n", "n/0(", "n+1/0 n");
    }

    private static void notKnownFirst(Checks checks) {
        for (String name : NOT_KNOWN) {
            for (String odd : ODD) {
                faults(checks, 3, odd + "+" + name, name + "+" + odd, "(" + odd + ")*(" + name + ")");
            }
            faults(checks, 3, name + "/0", "-a*" + name, "a+b+" + name, name + "%zero");
        }
    }

    private static void latestRead(Checks checks) {
        Desk desk = Desk.withNames();
        String[] lines = {"1/0", "@", "1", "n", "1 2", "a", "1/0", "", "n", "@", "1/0", "n", "1 2", "@", "$"};
        int[] due = {4, 1, 0, 3, 2, 0, 4, 2, 3, 1, 4, 3, 2, 1, 0};
        for (int i = 0; i < lines.length; i++) {
            desk.readKind(lines[i], false);
            checks.due("fault behind " + lines[i], desk.fault(), due[i]);
            checks.due("fault behind " + lines[i] + " again", desk.fault(), due[i]);
        }
        desk.readKind("1+2", true);
        checks.due("fault behind a sum that is to be products", desk.fault(), 2);
        desk.readKind("1+2", false);
        checks.due("fault behind the sum", desk.fault(), 0);
    }

    private static void otherCalls(Checks checks) {
        String[] lines = {"@", "1 2", "n", "1/0", "5"};
        for (int i = 0; i < lines.length; i++) {
            Desk desk = Desk.withNames();
            desk.readKind(lines[i], false);
            desk.bar("q");
            desk.bar("@");
            desk.place("p");
            desk.place("1 2");
            desk.constant("c", 1);
            desk.constant("", 1);
            desk.type("@ 1");
            desk.type(0, 0);
            desk.value();
            desk.side(5);
            desk.token(-1, 9);
            checks.due("fault behind other calls", desk.fault(), (i + 1) % 5);
        }
    }
}
