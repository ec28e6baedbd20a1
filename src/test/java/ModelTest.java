import java.nio.charset.StandardCharsets;
import java.util.Random;

/** Long runs of calls, the same ones each time, answered by the class and by the model alike. */
public final class ModelTest {
    private static final int RUNS = 2000;
    private static final int LONG_RUNS = 500;
    private static final int CALLS = 512;
    private static final String[] NAMES = {"a", "b", "c", "aa", "start", "end_", ".x", "_", "q.9", "rax", "five", "A",
        "n".repeat(63), "n".repeat(62)};
    private static final String[] NUMBERS = {"0", "1", "2", "7", "63", "64", "010", "0x10", "0xfF", "0b101", "'a'", "'\\n'",
        "'\\''", "';'", "18446744073709551615", "0x8000000000000000", "9223372036854775807", "4294967296"};
    private static final String[] SIGNS = {"|", "^", "&", "<<", ">>", "+", "-", "*", "/", "%"};
    private static final String[] TAME_SIGNS = {"|", "^", "&", "<<", ">>", "+", "-", "*"};
    private static final String[] ODDMENTS = {"(", ")", ",", ":", "[", "]", "~", "$", "\"t\"", "\"\"", "\"a;\\\"b\"", "@", "<", ">",
        "5a", "0x", "0b2", "'", "''", "\"", "\\", "18446744073709551616", "n".repeat(64), "\u0000", "\u007f", "\u00e9", "\n",
        "; a", ";\u0001\u00ff", "'ab'", "'a'b", " ", "\t"};

    private final Checks checks;
    private final Random random;
    private final ExpressionReader reader = new ExpressionReader();
    private final Model model = new Model();
    private final String run;
    private int calls = 0;

    private ModelTest(Checks checks, int seed) {
        this.checks = checks;
        random = new Random(seed);
        run = "run " + seed + ", ";
    }

    public static void main(String[] args) {
        Sentences all = new Sentences("Promises 1 to 10");
        all.holds("the class and a second model of the document answer alike", ModelTest::answerAlike);
        all.holds("they answer alike for lines of up to 1024 bytes", ModelTest::answerAlikeForLongLines);
        all.end();
    }

    private static void answerAlike(Checks checks) {
        for (int seed = 0; seed < RUNS; seed++) {
            new ModelTest(checks, seed).go();
        }
    }

    private static void answerAlikeForLongLines(Checks checks) {
        for (int seed = 0; seed < LONG_RUNS; seed++) {
            new ModelTest(checks, seed).readLongLine();
        }
    }

    /** The line is made longer until it is just below 1024 bytes, which take some 230 calls to type. */
    private void readLongLine() {
        for (String name : new String[] {"a", "b", "five"}) {
            type(name);
            useForName(name.equals("five") ? 1 : 7);
        }
        StringBuilder line = new StringBuilder(pick(new String[] {"", "", "a+(", "a-b-(", "-~("}));
        String close = line.length() == 0 ? "" : ")";
        line.append(longPart());
        for (String more = longPart(); line.length() + more.length() + 3 <= 1024; more = longPart()) {
            line.append(pick(TAME_SIGNS)).append(more);
        }
        line.append(close);
        if (random.nextInt(5) == 0) {
            line.setCharAt(random.nextInt(line.length()), (char) random.nextInt(256));
        }
        type(line.toString());
        read(random.nextInt(8) == 0);
        look();
    }

    /** No places and no division by 0 in it, for one of them would make nearly all long lines odd. */
    private String longPart() {
        String leaf = pick(new String[] {"five", "7", "0xff", "'x'", "2", "18446744073709551615"});
        switch (random.nextInt(6)) {
            case 0:
                return "(" + leaf + pick(TAME_SIGNS) + "(" + longPart() + "))";
            case 1:
                return "-~" + leaf;
            case 2:
                return leaf + "/7";
            case 3:
                return leaf + "%five";
            default:
                return leaf;
        }
    }

    private void go() {
        introduceNames();
        String line = someLine();
        // A line may be typed byte by byte, and some ten calls look at what came of it.
        while (calls + line.length() + 10 <= CALLS) {
            type(line);
            use();
            look();
            line = someLine();
        }
    }

    /** Most names are made known at once, for an expression with one that is not has a fault. */
    private void introduceNames() {
        int left = random.nextInt(NAMES.length);
        for (int i = 0; i < NAMES.length - 2; i++) {
            if (i != left) {
                type(NAMES[i]);
                useForName(random.nextInt(20));
            }
        }
    }

    private <T> T pick(T[] from) {
        return from[random.nextInt(from.length)];
    }

    private String someLine() {
        String line;
        switch (random.nextInt(6)) {
            case 0:
                line = pick(NAMES);
                break;
            case 1:
                line = pieces(random.nextInt(8));
                break;
            case 2:
                line = spoilt(expression(random.nextInt(5)));
                break;
            default:
                line = expression(random.nextInt(5));
        }
        return random.nextInt(8) == 0 ? " " + line + "\t;" + pick(ODDMENTS) : line;
    }

    private String expression(int depth) {
        String gap = random.nextInt(4) == 0 ? " " : "";
        int way = random.nextInt(10);
        if (depth == 0 || way == 0) {
            int leaf = random.nextInt(5);
            return leaf == 0 ? "$" : leaf < 3 ? pick(NAMES) : pick(NUMBERS);
        }
        if (way == 1) {
            return pick(new String[] {"-", "~", "+"}) + gap + expression(depth - 1);
        }
        if (way < 4) {
            return "(" + gap + expression(depth - 1) + ")";
        }
        String sign = random.nextInt(2) == 0 ? pick(new String[] {"+", "-"}) : pick(SIGNS);
        return expression(depth - 1) + gap + sign + gap + expression(depth - 1);
    }

    private String pieces(int count) {
        StringBuilder all = new StringBuilder();
        for (int i = 0; i < count; i++) {
            int of = random.nextInt(4);
            all.append(of == 0 ? pick(NAMES) : of == 1 ? pick(NUMBERS) : of == 2 ? pick(SIGNS) : pick(ODDMENTS));
            all.append(random.nextInt(3) == 0 ? " " : "");
        }
        return all.toString();
    }

    private String spoilt(String line) {
        int at = random.nextInt(line.length() + 1);
        switch (random.nextInt(3)) {
            case 0:
                return line.substring(0, at) + pick(ODDMENTS) + line.substring(at);
            case 1:
                return line.substring(0, at) + (char) random.nextInt(256) + line.substring(at);
            default:
                return line.substring(0, at) + line.substring(Math.min(line.length(), at + 1));
        }
    }

    private void type(String text) {
        byte[] bytes = text.getBytes(StandardCharsets.ISO_8859_1);
        int from = 0;
        while (from < bytes.length) {
            int n = Math.min(bytes.length - from, 1 + random.nextInt(8));
            long word = random.nextLong();
            for (int i = 0; i < n; i++) {
                word = word << 8 | bytes[from + i] & 255;
            }
            due("type(" + word + ", " + n + ")", reader.type(word, n), model.type(word, n));
            from += n;
        }
        if (random.nextInt(50) == 0) {
            int n = random.nextInt(30) - 10;
            long word = random.nextLong();
            due("type(" + word + ", " + n + ")", reader.type(word, n), model.type(word, n));
        }
    }

    private void use() {
        int way = random.nextInt(40);
        if (way < 20 && random.nextInt(3) == 0) {
            useForName(way);
            return;
        }
        read(way % 4 == 0);
    }

    private void read(boolean products) {
        int got;
        try {
            got = reader.read(products);
        } catch (IllegalArgumentException e) {
            got = -1;
        }
        due("read(" + products + ")", got, model.read(products));
    }

    /** Barred by way 0, a constant by the ways up to 6, a place by all others. */
    private void useForName(int way) {
        if (way == 0) {
            due("bar()", reader.bar(), model.bar());
        } else if (way <= 6) {
            long v = random.nextInt(3) == 0 ? random.nextLong() : random.nextInt(9) - 4;
            due("constant(" + v + ")", reader.constant(v), model.constant(v));
        } else {
            due("place()", reader.place(), model.place());
        }
    }

    private void look() {
        due("fault()", reader.fault(), model.fault());
        due("value()", reader.value(), model.value());
        int which = random.nextInt(4) - 1;
        due("side(" + which + ")", reader.side(which), model.side(which));
        for (int i = 0; i < 3; i++) {
            int k = random.nextInt(12) - 1;
            int what = random.nextInt(6) - 1;
            due("token(" + k + ", " + what + ")", reader.token(k, what), model.token(k, what));
        }
    }

    private void due(String call, Object got, Object want) {
        calls++;
        checks.due(run + "call " + calls + ", " + call, got, want);
    }
}
