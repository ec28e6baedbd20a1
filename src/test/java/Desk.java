import java.nio.charset.StandardCharsets;

/** A reader with whole lines typed at once; each character of a text is one byte of the line. */
final class Desk {
    final ExpressionReader reader = new ExpressionReader();

    /** Types the text in words of up to 8 bytes; false as soon as the reader refuses one. */
    boolean type(String text) {
        byte[] bytes = text.getBytes(StandardCharsets.ISO_8859_1);
        for (int from = 0; from < bytes.length; from += 8) {
            int n = Math.min(8, bytes.length - from);
            long word = 0;
            for (int i = 0; i < n; i++) {
                word = word << 8 | bytes[from + i] & 255;
            }
            if (!reader.type(word, n)) {
                return false;
            }
        }
        return true;
    }

    boolean bar(String line) {
        type(line);
        return reader.bar();
    }

    int place(String line) {
        type(line);
        return reader.place();
    }

    boolean constant(String line, long v) {
        type(line);
        return reader.constant(v);
    }

    /** "fault 2"; or "constant 7", "place 0 + 4", "span 1 - 0 + 5". */
    String read(String line, boolean products) {
        type(line);
        int kind;
        try {
            kind = reader.read(products);
        } catch (IllegalArgumentException e) {
            return "fault " + reader.fault();
        }
        return (reader.fault() == 0 ? "" : "with a fault: ") + latest(kind);
    }

    String read(String line) {
        return read(line, false);
    }

    private String latest(int kind) {
        String sides = reader.side(0) + " - " + reader.side(1) + " + " + reader.value();
        switch (kind) {
            case 0:
                return sides.startsWith("-1 - -1 + ") ? "constant " + reader.value() : "bad " + sides;
            case 1:
                return reader.side(1) == -1 ? "place " + reader.side(0) + " + " + reader.value() : "bad " + sides;
            case 2:
                return "span " + sides;
            default:
                return "kind " + kind;
        }
    }

    /** All tokens of the line that was used latest: "kind:begin-end:worth", with blanks between. */
    String tokens() {
        StringBuilder all = new StringBuilder();
        for (int k = 0; reader.token(k, 0) != -1; k++) {
            all.append(k == 0 ? "" : " ").append(reader.token(k, 0)).append(':').append(reader.token(k, 1));
            all.append('-').append(reader.token(k, 2)).append(':').append(reader.token(k, 3));
        }
        return all.toString();
    }
}
