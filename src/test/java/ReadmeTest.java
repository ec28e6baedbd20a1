import java.io.IOException;
import java.nio.charset.StandardCharsets;
import java.nio.file.Files;
import java.nio.file.Path;
import java.util.List;
import java.util.Set;
import java.util.TreeSet;
import java.util.regex.Matcher;
import java.util.regex.Pattern;

/** README.md says how to use the class: its example is run, so that it can't tell what is not so. */
public final class ReadmeTest {
    /** reader.call(arguments);  // answer: what it means */
    private static final Pattern CALL = Pattern.compile("reader\\.(\\w+)\\((.*)\\); +// ([^:]+)(?:: (.*))?");
    private static final String FACE = "[bar, constant, fault, place, read, side, token, type, value]";

    public static void main(String[] args) throws IOException {
        List<String> lines = Files.readAllLines(Path.of("README.md"), StandardCharsets.UTF_8);
        Sentences all = new Sentences("README.md");
        all.holds("each call of the example answers what stands behind it", checks -> runExample(checks, lines));
        all.holds("the example has each call of the face", checks -> checks.due("calls", callsOf(lines), FACE));
        all.end();
    }

    private static void runExample(Checks checks, List<String> lines) {
        ExpressionReader reader = new ExpressionReader();
        for (String line : lines) {
            Matcher call = CALL.matcher(line);
            if (call.matches()) {
                String[] arguments = call.group(2).split(", ");
                checks.due(line, answer(reader, call.group(1), arguments), call.group(3));
                if (call.group(1).equals("type")) {
                    checks.due("the text of " + line, "\"" + textOf(arguments) + "\"", call.group(4));
                }
            }
        }
    }

    private static Set<String> callsOf(List<String> lines) {
        Set<String> calls = new TreeSet<>();
        for (String line : lines) {
            Matcher call = CALL.matcher(line);
            if (call.matches()) {
                calls.add(call.group(1));
            }
        }
        return calls;
    }

    private static String answer(ExpressionReader reader, String call, String[] arguments) {
        switch (call) {
            case "type":
                return String.valueOf(reader.type(number(arguments[0]), (int) number(arguments[1])));
            case "bar":
                return String.valueOf(reader.bar());
            case "place":
                return String.valueOf(reader.place());
            case "constant":
                return String.valueOf(reader.constant(number(arguments[0])));
            case "read":
                return answerOfRead(reader, Boolean.parseBoolean(arguments[0]));
            case "fault":
                return String.valueOf(reader.fault());
            case "value":
                return String.valueOf(reader.value());
            case "side":
                return String.valueOf(reader.side((int) number(arguments[0])));
            case "token":
                return String.valueOf(reader.token((int) number(arguments[0]), (int) number(arguments[1])));
            default:
                return "no call of the face";
        }
    }

    private static String answerOfRead(ExpressionReader reader, boolean products) {
        try {
            return String.valueOf(reader.read(products));
        } catch (IllegalArgumentException e) {
            return "throws " + e.getClass().getSimpleName();
        }
    }

    private static long number(String written) {
        return Long.decode(written.endsWith("L") ? written.substring(0, written.length() - 1) : written);
    }

    private static String textOf(String[] arguments) {
        StringBuilder text = new StringBuilder();
        for (int left = (int) number(arguments[1]) - 1; left >= 0; left--) {
            text.append((char) (number(arguments[0]) >>> 8 * left & 255));
        }
        return text.toString();
    }
}
