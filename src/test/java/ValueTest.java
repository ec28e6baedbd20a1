/** Promise 8: the constant of the latest expression without a fault. */
public final class ValueTest {
    public static void main(String[] args) {
        Checks checks = new Checks("value");
        Desk desk = new Desk();
        checks.due("new", desk.reader.value(), 0);
        desk.read("1+");
        checks.due("behind a fault alone", desk.reader.value(), 0);
        desk.read("41+1");
        checks.due("behind 41+1", desk.reader.value(), 42);
        for (String line : new String[] {"7 @", "7 8", "7+n", "7/0", ""}) {
            desk.read(line);
            checks.due("behind the fault of " + line, desk.reader.value(), 42);
        }
        desk.type("13");
        checks.due("while a line is typed", desk.reader.value(), 42);
        desk.bar("");
        desk.place("p");
        desk.constant("c", 99);
        checks.due("behind names", desk.reader.value(), 42);
        desk.read("p+3");
        checks.due("a place's", desk.reader.value(), 3);
        desk.read("p-$-4");
        checks.due("a span's", desk.reader.value(), -4);
        desk.read("p");
        checks.due("a bare place's", desk.reader.value(), 0);
        desk.read("0x8000000000000000");
        checks.due("the least", desk.reader.value(), Long.MIN_VALUE);
        checks.end();
    }
}
