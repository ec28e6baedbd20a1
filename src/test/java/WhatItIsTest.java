/** The document's section "What it is": how long an object is promised to be of use. */
public final class WhatItIsTest {
    public static void main(String[] args) {
        Sentences all = new Sentences("What it is");
        all.holds("at most 512 calls: as many places as they can give", WhatItIsTest::mostPlaces);
        all.holds("at most 512 calls: as many constants as they can make", WhatItIsTest::mostConstants);
        all.holds("at most 512 calls: as many barred names as they can make", WhatItIsTest::mostBarred);
        all.holds("at most 512 calls: as many of the longest names as they can make", WhatItIsTest::longestNames);
        all.holds("at most 512 calls: the last of them reads as the first did", WhatItIsTest::mostReads);
        all.holds("at most 512 calls: the last of them refuses as the first did", WhatItIsTest::mostRefusals);
        all.end();
    }

    private static void mostPlaces(Checks checks) {
        Desk desk = new Desk();
        for (int i = 0; i < 256; i++) {
            checks.due("place of name " + i, desk.place("n" + i), i);
        }
        checks.due("calls left", desk.callsLeft(), 0);
        Desk almost = new Desk();
        for (int i = 0; i < 253; i++) {
            almost.place("n" + i);
        }
        checks.due("the last name", almost.read("n252"), "place 252 + 0");
        checks.due("calls left", almost.callsLeft(), 512 - 506 - 6);
    }

    private static void mostConstants(Checks checks) {
        Desk desk = new Desk();
        for (int i = 0; i < 253; i++) {
            checks.due("constant of name " + i, desk.constant("n" + i, -i), true);
        }
        checks.due("the last name", desk.read("n252"), "constant -252");
        Desk full = new Desk();
        for (int i = 0; i < 256; i++) {
            checks.due("constant of name " + i, full.constant("n" + i, i), true);
        }
    }

    private static void mostBarred(Checks checks) {
        Desk desk = new Desk();
        for (int i = 0; i < 254; i++) {
            checks.due("bar of name " + i, desk.bar("n" + i), true);
        }
        checks.due("the first name", desk.read("n0"), "fault 2");
        Desk full = new Desk();
        for (int i = 0; i < 256; i++) {
            checks.due("bar of name " + i, full.bar("n" + i), true);
        }
    }

    /** A name of 63 bytes takes eight calls to type and one to make it known. */
    private static void longestNames(Checks checks) {
        Desk desk = new Desk();
        for (int i = 0; i < 55; i++) {
            checks.due("place of long name " + i, desk.place(longName(i)), i);
        }
        checks.due("the last name", desk.read(longName(54)), "place 54 + 0");
    }

    private static String longName(int i) {
        return "t".repeat(61) + (char) ('A' + i % 26) + (char) ('a' + i / 26);
    }

    private static void mostReads(Checks checks) {
        Desk desk = new Desk();
        for (int i = 0; i < 256; i++) {
            checks.due("read " + i, desk.readKind(i % 2 == 0 ? "1+2*3" : "$-$-8", false), i % 2 == 0 ? "0" : "2");
        }
        checks.due("calls left", desk.callsLeft(), 0);
    }

    private static void mostRefusals(Checks checks) {
        Desk desk = new Desk();
        for (int i = 0; i < 128; i++) {
            checks.due("read of an empty line", desk.readKind("", false), "throws.IllegalArgumentException");
            checks.due("type of nothing", desk.type(0, 0), false);
            checks.due("bar of an empty line", desk.bar(""), false);
            checks.due("place of an empty line", desk.place(""), -1);
        }
        checks.due("calls left", desk.callsLeft(), 0);
    }
}
