import java.nio.charset.StandardCharsets;

/**
 * A reader with whole lines typed at once; each character of a text is one byte of the line. It
 * refuses to make more calls than the document promises anything for.
 */
final class Desk {
    private static final int MOST_CALLS = 512;

    private final ExpressionReader reader = new ExpressionReader();
    private int calls = 0;

    /** a and b have the places 0 and 1, five and zero are constants, r is barred. */
    static Desk withNames() {
        Desk desk = new Desk();
        desk.place("a");
        desk.place("b");
        desk.constant("five", 5);
        desk.constant("zero", 0);
        desk.bar("r");
        return desk;
    }

    int callsLeft() {
        return MOST_CALLS - calls;
    }

    boolean type(long word, int n) {
        return called().type(word, n);
    }

    /** Types the text in words of up to 8 bytes; false as soon as the reader refuses one. */
    boolean type(String text) {
        byte[] bytes = text.getBytes(StandardCharsets.ISO_8859_1);
        for (int from = 0; from < bytes.length; from += 8) {
            int n = Math.min(8, bytes.length - from);
            long word = 0;
            for (int i = 0; i < n; i++) {
                word = word << 8 | bytes[from + i] & 255;
            }
            if (!type(word, n)) {
                return false;
            }
        }
        return true;
    }

    boolean bar(String line) {
        type(line);
        return called().bar();
    }

    int place(String line) {
        type(line);
        return called().place();
    }

    boolean constant(String line, long v) {
        type(line);
        return called().constant(v);
    }

    String read(String line) {
        return read(line, false);
    }

    /** "fault 2"; or "constant 7", "place 0 + 4", "span 1 - 0 + 5". */
    String read(String line, boolean products) {
        type(line);
        int kind;
        try {
            kind = called().read(products);
        } catch (IllegalArgumentException e) {
            // A class below it is one that the machine or the library throws.
            return e.getClass() == IllegalArgumentException.class ? "fault " + fault() : "throws " + e;
        }
        return (fault() == 0 ? "" : "with a fault: ") + latest(kind);
    }

    /** The bare answer of read, or the exception's name behind "throws.". */
    String readKind(String line, boolean products) {
        type(line);
        try {
            return String.valueOf(called().read(products));
        } catch (RuntimeException e) {
            return "throws." + e.getClass().getSimpleName();
        }
    }

    int fault() {
        return called().fault();
    }

    long value() {
        return called().value();
    }

    int side(int which) {
        return called().side(which);
    }

    int token(int k, int what) {
        return called().token(k, what);
    }

    /** All tokens of the line that was used latest: "kind:begin-end:worth", with blanks between. */
    String tokens() {
        StringBuilder all = new StringBuilder();
        for (int k = 0; token(k, 0) != -1; k++) {
            all.append(k == 0 ? "" : " ").append(token(k, 0)).append(':').append(token(k, 1));
            all.append('-').append(token(k, 2)).append(':').append(token(k, 3));
        }
        return all.toString();
    }

    private String latest(int kind) {
        int place = side(0);
        int takenOff = side(1);
        if (kind == 0 && place == -1 && takenOff == -1) {
            return "constant " + value();
        }
        if (kind == 1 && place != -1 && takenOff == -1) {
            return "place " + place + " + " + value();
        }
        if (kind == 2 && place != -1 && takenOff != -1) {
            return "span " + place + " - " + takenOff + " + " + value();
        }
        return "kind " + kind + " with " + place + " - " + takenOff + " + " + value();
    }

    private ExpressionReader called() {
        calls++;
        if (calls > MOST_CALLS) {
            throw new IllegalStateException("the test makes more than 512 calls");
        }
        return reader;
    }
}
