import java.math.BigInteger;
import java.nio.charset.StandardCharsets;
import java.util.ArrayList;
import java.util.HashMap;
import java.util.List;
import java.util.Map;
import java.util.regex.Matcher;
import java.util.regex.Pattern;

/**
 * The document's terms written down a second time and in another way: tokens by a pattern, and
 * expressions by methods that call one another. It shares nothing with the class it is compared to.
 */
final class Model {
    private static final String NO_MORE = "(?![A-Za-z0-9_.])";
    private static final Pattern TOKEN = Pattern.compile(
            "([A-Za-z_.][A-Za-z0-9_.]{0,62}" + NO_MORE + ")"
            + "|((?:0x[0-9A-Fa-f]+|0b[01]+|[0-9]+|'(?:[ -&(-\\[\\]-~]|\\\\[ -~])')" + NO_MORE + ")"
            + "|(\"(?:[ !#-\\[\\]-~]|\\\\[ -~])*+\")"
            + "|(<<|>>|[,:\\[\\]()+\\-*/%&|^~$])");
    private static final String[] LEVELS = {"|", "^", "&", "<< >>", "+ -", "* / %"};

    private record Token(int kind, int begin, int end, String text, long worth) { }

    private record Worth(boolean odd, long constant, Integer place, Integer off) { }

    private record Known(boolean barred, long constant, Integer place) { }

    private static final class NoExpression extends Exception {
        private static final long serialVersionUID = 1L;
    }

    private final StringBuilder line = new StringBuilder();
    private final Map<String, Known> names = new HashMap<>();
    private List<Token> tokens = new ArrayList<>();
    private boolean broken = false;
    private int places = 0;
    private int fault = 0;
    private Worth latest = new Worth(false, 0, null, null);
    private int at;
    private boolean unknown;

    boolean type(long word, int n) {
        if (n < 1 || n > 8 || line.length() + n > 1024) {
            return false;
        }
        byte[] all = BigInteger.valueOf(word).add(BigInteger.ONE.shiftLeft(72)).toByteArray();
        line.append(new String(all, all.length - n, n, StandardCharsets.ISO_8859_1));
        return true;
    }

    boolean bar() {
        String name = useForName();
        return name != null && names.putIfAbsent(name, new Known(true, 0, null)) == null;
    }

    boolean constant(long v) {
        String name = useForName();
        return name != null && names.putIfAbsent(name, new Known(false, v, null)) == null;
    }

    int place() {
        String name = useForName();
        if (name == null) {
            return -1;
        }
        if (!names.containsKey(name)) {
            names.put(name, new Known(false, 0, places++));
        }
        Integer has = names.get(name).place();
        return has == null ? -1 : has;
    }

    /** The kind, or -1 where IllegalArgumentException is due. */
    int read(boolean products) {
        use();
        Worth found = null;
        unknown = false;
        at = 0;
        fault = broken ? 1 : 0;
        if (!broken) {
            try {
                found = level(products ? 5 : 0);
                fault = at < tokens.size() ? 2 : unknown ? 3 : found.odd() ? 4 : 0;
            } catch (NoExpression e) {
                fault = 2;
            }
        }
        if (fault != 0) {
            return -1;
        }
        latest = found;
        return latest.place() == null ? 0 : latest.off() == null ? 1 : 2;
    }

    int fault() {
        return fault;
    }

    long value() {
        return latest.constant();
    }

    int side(int which) {
        Integer found = which == 0 ? latest.place() : which == 1 ? latest.off() : null;
        return found == null ? -1 : found;
    }

    int token(int k, int what) {
        if (k < 0 || k >= tokens.size() || what < 0 || what > 3) {
            return -1;
        }
        Token t = tokens.get(k);
        return List.of(t.kind(), t.begin(), t.end(), BigInteger.valueOf(t.worth()).mod(BigInteger.TWO.pow(31)).intValue()).get(what);
    }

    private String useForName() {
        use();
        return !broken && tokens.size() == 1 && tokens.get(0).kind() == 1 ? tokens.get(0).text() : null;
    }

    private void use() {
        String text = line.toString();
        line.setLength(0);
        tokens = new ArrayList<>();
        broken = false;
        Matcher next = TOKEN.matcher(text);
        int i = 0;
        while (i < text.length() && text.charAt(i) != ';') {
            if (text.charAt(i) == ' ' || text.charAt(i) == '\t') {
                i++;
                continue;
            }
            if (!next.region(i, text.length()).useTransparentBounds(true).lookingAt() || !keep(next)) {
                broken = true;
                return;
            }
            i = next.end();
        }
    }

    private boolean keep(Matcher found) {
        int kind = 1;
        while (found.group(kind) == null) {
            kind++;
        }
        String text = found.group();
        BigInteger worth = kind == 2 ? number(text) : BigInteger.valueOf(kind == 4 ? text.charAt(0) : 0);
        tokens.add(new Token(kind, found.start(), found.end(), text, worth.longValue()));
        if (worth.bitLength() > 64) {
            tokens.remove(tokens.size() - 1);
            return false;
        }
        return true;
    }

    private static BigInteger number(String text) {
        if (text.startsWith("'")) {
            int c = text.charAt(text.length() - 2);
            boolean escape = text.length() == 4;
            return BigInteger.valueOf(!escape ? c : c == 'n' ? 10 : c == 't' ? 9 : c == '0' ? 0 : c);
        }
        if (text.startsWith("0x")) {
            return new BigInteger(text.substring(2), 16);
        }
        return text.startsWith("0b") ? new BigInteger(text.substring(2), 2) : new BigInteger(text);
    }

    private String sign() {
        return at < tokens.size() && tokens.get(at).kind() == 4 ? tokens.get(at).text() : "";
    }

    private Worth level(int level) throws NoExpression {
        if (level == LEVELS.length) {
            return inFront();
        }
        Worth left = level(level + 1);
        while (!sign().isEmpty() && List.of(LEVELS[level].split(" ")).contains(sign())) {
            String sign = tokens.get(at++).text();
            left = between(sign, left, level(level + 1));
        }
        return left;
    }

    private Worth inFront() throws NoExpression {
        String sign = sign();
        if (!sign.equals("-") && !sign.equals("~") && !sign.equals("+")) {
            return operand();
        }
        at++;
        Worth of = inFront();
        if (sign.equals("+")) {
            return of;
        }
        return new Worth(of.odd() || of.place() != null, sign.equals("-") ? -of.constant() : -1 - of.constant(), of.place(), of.off());
    }

    private Worth operand() throws NoExpression {
        if (at >= tokens.size()) {
            throw new NoExpression();
        }
        Token t = tokens.get(at++);
        if (t.kind() == 2) {
            return new Worth(false, t.worth(), null, null);
        }
        if (t.kind() == 1) {
            return named(names.get(t.text()));
        }
        if (t.text().equals("$")) {
            return new Worth(false, 0, -2, null);
        }
        if (!t.text().equals("(")) {
            throw new NoExpression();
        }
        Worth inside = level(0);
        if (!sign().equals(")")) {
            throw new NoExpression();
        }
        at++;
        return inside;
    }

    private Worth named(Known known) throws NoExpression {
        if (known == null) {
            unknown = true;
            return new Worth(false, 0, null, null);
        }
        if (known.barred()) {
            throw new NoExpression();
        }
        return new Worth(false, known.constant(), known.place(), null);
    }

    private static Worth between(String sign, Worth l, Worth r) {
        boolean odd = l.odd() || r.odd();
        if (sign.equals("+")) {
            Worth main = l.place() == null ? r : l;
            return new Worth(odd || l.place() != null && r.place() != null, l.constant() + r.constant(), main.place(), main.off());
        }
        if (sign.equals("-")) {
            boolean span = l.place() != null && l.off() == null && r.place() != null && r.off() == null;
            return new Worth(odd || r.place() != null && !span, l.constant() - r.constant(), l.place(), span ? r.place() : l.off());
        }
        BigInteger a = BigInteger.valueOf(l.constant());
        BigInteger b = BigInteger.valueOf(r.constant());
        int shift = b.and(BigInteger.valueOf(63)).intValue();
        boolean byNone = b.signum() == 0;
        odd = odd || l.place() != null || r.place() != null || byNone && "/%".contains(sign);
        BigInteger worth = switch (sign) {
            case "|" -> a.or(b);
            case "^" -> a.xor(b);
            case "&" -> a.and(b);
            case "<<" -> a.shiftLeft(shift);
            case ">>" -> a.mod(BigInteger.TWO.pow(64)).shiftRight(shift);
            case "*" -> a.multiply(b);
            case "/" -> byNone ? a : a.divide(b);
            default -> byNone ? a : a.remainder(b);
        };
        return new Worth(odd, worth.longValue(), null, null);
    }
}
