import java.util.Arrays;

/**
 * Cuts lines of characters into tokens and reads the expressions in them: constants, places, and
 * spans between two places.
 */
public final class ExpressionReader {
    private static final int LINE_LIMIT = 1024;
    private static final int WORD_LIMIT = 8;

    /** "There is none": no byte, no place, no token. No place has this number. */
    private static final int NONE = -1;
    private static final int PLACE_OF_DOLLAR = -2;

    private static final int NO_FAULT = 0;
    private static final int FAULT_TOKENS = 1;
    private static final int FAULT_NO_EXPRESSION = 2;
    private static final int FAULT_UNKNOWN_NAME = 3;
    private static final int FAULT_ODD = 4;

    private final Line line = new Line();
    private final Tokens tokens = new Tokens();
    private final Names names = new Names();
    private final Expression expression = new Expression();

    private int latestFault = NO_FAULT;
    private long latestConstant = 0;
    private int latestPlace = NONE;
    private int latestTakenOff = NONE;

    /** An empty line; no names. */
    public ExpressionReader() {
    }

    /** Appends the n lowest bytes of word to the line, the highest of them first. */
    public boolean type(long word, int n) {
        return line.append(word, n);
    }

    /** Makes the line's one name a barred one, which no expression may hold. */
    public boolean bar() {
        return learnName(true, 0);
    }

    /** Gives the line's one name the next place, or tells the place that it has. */
    public int place() {
        tokens.cut(line);
        int found = NONE;
        if (tokens.areJustOneName()) {
            found = names.placeFor(line, tokens.beginOf(0), tokens.endOf(0));
        }
        line.clear();
        return found;
    }

    /** Makes the line's one name a constant. */
    public boolean constant(long v) {
        return learnName(false, v);
    }

    /** Reads the line as an expression: 0 a constant, 1 a place, 2 a span. */
    public int read(boolean products) throws IllegalArgumentException {
        tokens.cut(line);
        latestFault = expression.findFault(line, tokens, names, products);
        // The line is used up whether or not it has a fault, so this stands ahead of the throw.
        line.clear();
        if (latestFault != NO_FAULT) {
            throw new IllegalArgumentException("the line has a fault");
        }
        latestConstant = expression.constantFound();
        latestPlace = expression.placeFound();
        latestTakenOff = expression.takenOffFound();
        return kindOfLatest();
    }

    /** The first fault that holds for the latest read, 0 for none. */
    public int fault() {
        return latestFault;
    }

    /** The constant of the latest expression without a fault. */
    public long value() {
        return latestConstant;
    }

    /** The place of the latest expression without a fault (0), or that which is taken off (1). */
    public int side(int which) {
        if (which == 0) {
            return latestPlace;
        }
        return which == 1 ? latestTakenOff : NONE;
    }

    /** What there is to tell of token k of the line that was used latest. */
    public int token(int k, int what) {
        switch (what) {
            case 0:
                return tokens.kindOf(k);
            case 1:
                return tokens.beginOf(k);
            case 2:
                return tokens.endOf(k);
            case 3:
                return tokens.lowWorthOf(k);
            default:
                return NONE;
        }
    }

    private boolean learnName(boolean barred, long v) {
        tokens.cut(line);
        boolean learnt = tokens.areJustOneName()
                && names.learn(line, tokens.beginOf(0), tokens.endOf(0), barred, v);
        line.clear();
        return learnt;
    }

    private int kindOfLatest() {
        if (latestPlace == NONE) {
            return 0;
        }
        return latestTakenOff == NONE ? 1 : 2;
    }

    /** The bytes that have been typed since a line was used latest. */
    private static final class Line {
        private final byte[] bytes = new byte[LINE_LIMIT];
        private int length = 0;

        boolean append(long word, int n) {
            if (n < 1 || n > WORD_LIMIT || length + n > LINE_LIMIT) {
                return false;
            }
            for (int left = n - 1; left >= 0; left--) {
                bytes[length] = (byte) (word >>> (8 * left));
                length++;
            }
            return true;
        }

        void clear() {
            length = 0;
        }

        int size() {
            return length;
        }

        /** NONE outside of the line, so that those who look ahead need no test of their own. */
        int at(int i) {
            return i >= 0 && i < length ? bytes[i] & 255 : NONE;
        }

        byte[] copy(int begin, int end) {
            if (begin < 0 || begin > end || end > length) {
                return new byte[0];
            }
            return Arrays.copyOfRange(bytes, begin, end);
        }

        boolean holds(byte[] letters, int begin, int end) {
            if (letters.length != end - begin) {
                return false;
            }
            for (int i = 0; i < letters.length; i++) {
                if (at(begin + i) != (letters[i] & 255)) {
                    return false;
                }
            }
            return true;
        }
    }

    /** What the characters of a line are, and how far the tokens reach that they make. */
    private static final class Shapes {
        static boolean isDigit(int c) {
            return c >= '0' && c <= '9';
        }

        /** These may not stand directly behind a name or a number either. */
        static boolean isOfNames(int c) {
            return c >= 'a' && c <= 'z' || c >= 'A' && c <= 'Z' || isDigit(c) || c == '_' || c == '.';
        }

        static boolean isPrintable(int c) {
            return c >= 32 && c <= 126;
        }

        /** Where the next token has to begin; the line's end if there are but blanks or a comment. */
        static int nextStart(Line line, int from) {
            for (int i = from; i < line.size(); i++) {
                int c = line.at(i);
                if (c == ';') {
                    return line.size();
                }
                if (c != 9 && c != 32) {
                    return i;
                }
            }
            return line.size();
        }

        static int endOfName(Line line, int begin) {
            int end = begin;
            while (end < line.size() && isOfNames(line.at(end))) {
                end++;
            }
            return end;
        }

        /** How many bytes the character at a place between two quotes takes; 0 if none is there. */
        static int widthOfCharacter(Line line, int at, int quote) {
            int c = line.at(at);
            if (!isPrintable(c) || c == quote) {
                return 0;
            }
            if (c != '\\') {
                return 1;
            }
            return isPrintable(line.at(at + 1)) ? 2 : 0;
        }

        static int worthOfEscape(int c) {
            switch (c) {
                case 'n':
                    return 10;
                case 't':
                    return 9;
                case '0':
                    return 0;
                default:
                    return c;
            }
        }

        static int endOfCharacters(Line line, int begin, int quote) {
            int end = begin;
            for (int steps = 0; steps < LINE_LIMIT; steps++) {
                int width = widthOfCharacter(line, end, quote);
                if (width == 0) {
                    return end;
                }
                end += width;
            }
            return end;
        }

        static int widthOfSign(Line line, int at) {
            int c = line.at(at);
            switch (c) {
                case ',': case ':': case '[': case ']': case '(': case ')':
                case '+': case '-': case '*': case '/': case '%':
                case '&': case '|': case '^': case '~': case '$':
                    return 1;
                case '<': case '>':
                    return line.at(at + 1) == c ? 2 : 0;
                default:
                    return 0;
            }
        }

        static int baseOfNumber(Line line, int at) {
            if (line.at(at) != '0') {
                return 10;
            }
            int second = line.at(at + 1);
            if (second == 'x') {
                return 16;
            }
            return second == 'b' ? 2 : 10;
        }

        /** NONE if the character is no digit of that base. */
        static int digit(int c, int base) {
            int worth = NONE;
            if (isDigit(c)) {
                worth = c - '0';
            } else if (c >= 'a' && c <= 'f') {
                worth = c - 'a' + 10;
            } else if (c >= 'A' && c <= 'F') {
                worth = c - 'A' + 10;
            }
            return worth < base ? worth : NONE;
        }

        /** Whether number (without a sign) times base plus digit stays below 2 to the power 64. */
        static boolean hasRoom(long number, int base, int digit) {
            if (base == 16) {
                return number >>> 60 == 0;
            }
            if (base == 2) {
                return number >>> 63 == 0;
            }
            // The greatest number is 18446744073709551615: its last digit decides the edge.
            long most = 1844674407370955161L;
            return number >= 0 && (number < most || number == most && digit <= 5);
        }
    }

    /** The tokens of the line that was used latest, up to its first fault. */
    private static final class Tokens {
        private static final int NAME = 1;
        private static final int NUMBER = 2;
        private static final int TEXT = 3;
        private static final int SIGN = 4;
        private static final int NAME_LIMIT = 63;

        private final byte[] kinds = new byte[LINE_LIMIT];
        private final int[] begins = new int[LINE_LIMIT];
        private final int[] ends = new int[LINE_LIMIT];
        /** A number's worth, a sign's first character, else 0. */
        private final long[] worths = new long[LINE_LIMIT];
        private int count = 0;
        private boolean sound = true;

        void cut(Line line) {
            count = 0;
            sound = true;
            int begin = Shapes.nextStart(line, 0);
            for (int cuts = 0; cuts < LINE_LIMIT && begin < line.size(); cuts++) {
                int end = cutOne(line, begin);
                if (end == NONE) {
                    sound = false;
                    return;
                }
                begin = Shapes.nextStart(line, end);
            }
        }

        int size() {
            return count;
        }

        /** Whether the line was cut to its end. */
        boolean areSound() {
            return sound;
        }

        boolean areJustOneName() {
            return sound && count == 1 && kindOf(0) == NAME;
        }

        int kindOf(int k) {
            return has(k) ? kinds[k] : NONE;
        }

        int beginOf(int k) {
            return has(k) ? begins[k] : NONE;
        }

        int endOf(int k) {
            return has(k) ? ends[k] : NONE;
        }

        long worthOf(int k) {
            return has(k) ? worths[k] : 0;
        }

        int lowWorthOf(int k) {
            return has(k) ? (int) (worths[k] & 0x7fffffffL) : NONE;
        }

        /** The first character of a sign, 0 for all else. */
        int signOf(int k) {
            return kindOf(k) == SIGN ? (int) worthOf(k) : 0;
        }

        private boolean has(int k) {
            return k >= 0 && k < count;
        }

        /** Each of the cutters answers the token's end, or NONE if no token can be there. */
        private int cutOne(Line line, int begin) {
            int c = line.at(begin);
            if (Shapes.isDigit(c)) {
                return cutNumber(line, begin);
            }
            if (Shapes.isOfNames(c)) {
                return cutName(line, begin);
            }
            if (c == '\'') {
                return cutCharacter(line, begin);
            }
            return c == '"' ? cutText(line, begin) : cutSign(line, begin);
        }

        private int cutName(Line line, int begin) {
            int end = Shapes.endOfName(line, begin);
            return end - begin > NAME_LIMIT ? NONE : keep(NAME, begin, end, 0);
        }

        private int cutNumber(Line line, int begin) {
            int base = Shapes.baseOfNumber(line, begin);
            int first = base == 10 ? begin : begin + 2;
            // What a number may not have directly behind it is just what a name goes on with.
            int end = Shapes.endOfName(line, begin);
            if (first >= end) {
                return NONE;
            }
            long number = 0;
            for (int i = first; i < end; i++) {
                int digit = Shapes.digit(line.at(i), base);
                if (digit == NONE || !Shapes.hasRoom(number, base, digit)) {
                    return NONE;
                }
                number = number * base + digit;
            }
            return keep(NUMBER, begin, end, number);
        }

        private int cutCharacter(Line line, int begin) {
            int width = Shapes.widthOfCharacter(line, begin + 1, '\'');
            int close = begin + 1 + width;
            if (width == 0 || line.at(close) != '\'' || Shapes.isOfNames(line.at(close + 1))) {
                return NONE;
            }
            int last = line.at(close - 1);
            return keep(NUMBER, begin, close + 1, width == 2 ? Shapes.worthOfEscape(last) : last);
        }

        private int cutText(Line line, int begin) {
            int close = Shapes.endOfCharacters(line, begin + 1, '"');
            return line.at(close) != '"' ? NONE : keep(TEXT, begin, close + 1, 0);
        }

        private int cutSign(Line line, int begin) {
            int width = Shapes.widthOfSign(line, begin);
            return width == 0 ? NONE : keep(SIGN, begin, begin + width, line.at(begin));
        }

        private int keep(int kind, int begin, int end, long worth) {
            if (count >= LINE_LIMIT) {
                return NONE;
            }
            kinds[count] = (byte) kind;
            begins[count] = begin;
            ends[count] = end;
            worths[count] = worth;
            count++;
            return end;
        }
    }

    /** A name that is known: barred, or with a place, or (if neither) a constant. */
    private static final class Name {
        private final byte[] letters;
        private final boolean barred;
        private final long worth;
        private final int where;

        Name(byte[] letters, boolean barred, long worth, int where) {
            this.letters = letters;
            this.barred = barred;
            this.worth = worth;
            this.where = where;
        }
    }

    /** All names that are known. */
    private static final class Names {
        /** Each name takes a call that types it and one that makes it known, of 512 calls. */
        private static final int LIMIT = 256;

        private final Name[] known = new Name[LIMIT];
        private int count = 0;
        private int placesGiven = 0;

        Name find(Line line, int begin, int end) {
            for (int i = 0; i < count; i++) {
                Name name = known[i];
                if (name != null && line.holds(name.letters, begin, end)) {
                    return name;
                }
            }
            return null;
        }

        boolean learn(Line line, int begin, int end, boolean barred, long worth) {
            if (find(line, begin, end) != null) {
                return false;
            }
            return add(new Name(line.copy(begin, end), barred, worth, NONE));
        }

        int placeFor(Line line, int begin, int end) {
            Name name = find(line, begin, end);
            if (name != null) {
                return name.where;
            }
            if (!add(new Name(line.copy(begin, end), false, 0, placesGiven))) {
                return NONE;
            }
            placesGiven++;
            return placesGiven - 1;
        }

        private boolean add(Name name) {
            if (count >= LIMIT) {
                return false;
            }
            known[count] = name;
            count++;
            return true;
        }
    }

    /**
     * Looks at a line's tokens as an expression and works it out. Brackets may go some 500 deep,
     * so signs and values wait in rows and no method calls itself.
     */
    private static final class Expression {
        private static final int RANK_PREFIX = 7;
        private static final int RANK_PRODUCT = 6;
        private static final int RANK_LOWEST = 1;
        private static final int RANK_NONE = 0;

        /** What each token means that is a name; null for one that is not known. */
        private final Name[] meant = new Name[LINE_LIMIT];
        /** Signs whose right operand is not worked out yet; those in front are held negated. */
        private final byte[] waiting = new byte[LINE_LIMIT];
        private int waitingCount = 0;
        private final Values values = new Values();

        int findFault(Line line, Tokens tokens, Names names, boolean products) {
            if (!tokens.areSound()) {
                return FAULT_TOKENS;
            }
            lookUpNames(line, tokens, names);
            if (!isExpression(tokens, products)) {
                return FAULT_NO_EXPRESSION;
            }
            if (!areNamesKnown(tokens)) {
                return FAULT_UNKNOWN_NAME;
            }
            workOut(tokens);
            return values.areOdd() ? FAULT_ODD : NO_FAULT;
        }

        long constantFound() {
            return values.constantOfFirst();
        }

        int placeFound() {
            return values.placeOfFirst();
        }

        int takenOffFound() {
            return values.takenOffOfFirst();
        }

        private void lookUpNames(Line line, Tokens tokens, Names names) {
            for (int k = 0; k < tokens.size() && k < meant.length; k++) {
                meant[k] = tokens.kindOf(k) == Tokens.NAME
                        ? names.find(line, tokens.beginOf(k), tokens.endOf(k)) : null;
            }
        }

        private Name meaningOf(int k) {
            return k >= 0 && k < meant.length ? meant[k] : null;
        }

        private boolean isExpression(Tokens tokens, boolean products) {
            boolean operandDue = true;
            int open = 0;
            for (int k = 0; k < tokens.size(); k++) {
                int sign = tokens.signOf(k);
                if (operandDue) {
                    operandDue = !isOperand(tokens, k);
                    if (operandDue && sign != '(' && !isPrefix(sign)) {
                        return false;
                    }
                    open += sign == '(' ? 1 : 0;
                } else if (sign == ')') {
                    open--;
                    if (open < 0) {
                        return false;
                    }
                } else {
                    int lowest = products && open == 0 ? RANK_PRODUCT : RANK_LOWEST;
                    if (rankOf(sign) < lowest) {
                        return false;
                    }
                    operandDue = true;
                }
            }
            return !operandDue && open == 0;
        }

        private boolean isOperand(Tokens tokens, int k) {
            int kind = tokens.kindOf(k);
            if (kind == Tokens.NAME) {
                Name name = meaningOf(k);
                return name == null || !name.barred;
            }
            return kind == Tokens.NUMBER || tokens.signOf(k) == '$';
        }

        private static boolean isPrefix(int sign) {
            return sign == '-' || sign == '~' || sign == '+';
        }

        private boolean areNamesKnown(Tokens tokens) {
            for (int k = 0; k < tokens.size(); k++) {
                if (tokens.kindOf(k) == Tokens.NAME && meaningOf(k) == null) {
                    return false;
                }
            }
            return true;
        }

        /** How tightly a waiting sign binds; RANK_NONE for what does not stand between operands. */
        private static int rankOf(int sign) {
            switch (sign) {
                case '|':
                    return RANK_LOWEST;
                case '^':
                    return 2;
                case '&':
                    return 3;
                case '<': case '>':
                    return 4;
                case '+': case '-':
                    return 5;
                case '*': case '/': case '%':
                    return RANK_PRODUCT;
                default:
                    return sign < 0 ? RANK_PREFIX : RANK_NONE;
            }
        }

        private void workOut(Tokens tokens) {
            values.clear();
            waitingCount = 0;
            boolean operandDue = true;
            for (int k = 0; k < tokens.size(); k++) {
                int sign = tokens.signOf(k);
                if (operandDue) {
                    operandDue = !isOperand(tokens, k);
                    if (operandDue) {
                        letWait(sign == '(' ? sign : -sign);
                    } else {
                        pushOperand(tokens, k);
                    }
                } else if (sign == ')') {
                    applyWaiting(RANK_LOWEST);
                    dropBracket();
                } else {
                    applyWaiting(rankOf(sign));
                    letWait(sign);
                    operandDue = true;
                }
            }
            applyWaiting(RANK_LOWEST);
        }

        private void pushOperand(Tokens tokens, int k) {
            Name name = meaningOf(k);
            if (name != null) {
                values.push(name.worth, name.where);
            } else if (tokens.signOf(k) == '$') {
                values.push(0, PLACE_OF_DOLLAR);
            } else {
                values.push(tokens.worthOf(k), NONE);
            }
        }

        private void letWait(int sign) {
            if (waitingCount < waiting.length) {
                waiting[waitingCount] = (byte) sign;
                waitingCount++;
            }
        }

        private void dropBracket() {
            if (waitingCount > 0) {
                waitingCount--;
            }
        }

        /** A bracket's rank is below all that is asked for, so nothing is applied across it. */
        private void applyWaiting(int lowestRank) {
            for (int i = waitingCount - 1; i >= 0 && rankOf(waiting[i]) >= lowestRank; i--) {
                int sign = waiting[i];
                if (sign < 0) {
                    values.applyInFront(-sign);
                } else {
                    values.applyBetween(sign);
                }
                waitingCount = i;
            }
        }
    }

    /** The values of an expression that are worked out and not yet used, the latest on top. */
    private static final class Values {
        /** Two values have a sign between them, so no line has more. */
        private static final int LIMIT = LINE_LIMIT / 2;

        private final long[] constants = new long[LIMIT];
        private final int[] places = new int[LIMIT];
        private final int[] takenOff = new int[LIMIT];
        private int count = 0;
        private boolean odd = false;

        void clear() {
            count = 0;
            odd = false;
        }

        boolean areOdd() {
            return odd;
        }

        long constantOfFirst() {
            return constants[0];
        }

        int placeOfFirst() {
            return places[0];
        }

        int takenOffOfFirst() {
            return takenOff[0];
        }

        void push(long constant, int place) {
            if (count < LIMIT) {
                constants[count] = constant;
                places[count] = place;
                takenOff[count] = NONE;
                count++;
            }
        }

        void applyInFront(int sign) {
            int top = count - 1;
            if (sign == '+' || top < 0) {
                return;
            }
            if (!isConstant(top)) {
                odd = true;
            }
            constants[top] = sign == '-' ? -constants[top] : ~constants[top];
        }

        void applyBetween(int sign) {
            int right = count - 1;
            int left = right - 1;
            if (left < 0) {
                return;
            }
            if (sign == '+') {
                add(left, right);
            } else if (sign == '-') {
                takeOff(left, right);
            } else if (isConstant(left) && isConstant(right)) {
                constants[left] = combine(sign, constants[left], constants[right]);
            } else {
                odd = true;
            }
            count = right;
        }

        private boolean isConstant(int i) {
            return places[i] == NONE;
        }

        private boolean isPlace(int i) {
            return places[i] != NONE && takenOff[i] == NONE;
        }

        private void add(int left, int right) {
            if (isConstant(left)) {
                places[left] = places[right];
                takenOff[left] = takenOff[right];
            } else if (!isConstant(right)) {
                odd = true;
            }
            constants[left] += constants[right];
        }

        private void takeOff(int left, int right) {
            if (isPlace(left) && isPlace(right)) {
                takenOff[left] = places[right];
            } else if (!isConstant(right)) {
                odd = true;
            }
            constants[left] -= constants[right];
        }

        private long combine(int sign, long left, long right) {
            switch (sign) {
                case '|':
                    return left | right;
                case '^':
                    return left ^ right;
                case '&':
                    return left & right;
                case '<':
                    return left << (right & 63);
                case '>':
                    return left >>> (right & 63);
                case '*':
                    return left * right;
                default:
                    return divide(sign, left, right);
            }
        }

        private long divide(int sign, long left, long right) {
            if (right == 0) {
                odd = true;
                return 0;
            }
            return sign == '/' ? left / right : left % right;
        }
    }
}
