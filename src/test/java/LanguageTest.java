import java.util.Random;

/** Rule 7 of LANGUAGE.md: no call ever throws by itself, for any arguments in any state. */
public final class LanguageTest {
    private static final int[] INTS = {Integer.MIN_VALUE, -1024, -2, -1, 0, 1, 2, 3, 4, 8, 9, 255, 256, 1023, 1024, 1025, Integer.MAX_VALUE};

    public static void main(String[] args) {
        Sentences all = new Sentences("LANGUAGE 7");
        all.holds("no call throws by itself: any arguments", LanguageTest::anyArguments);
        all.holds("no call throws by itself: any bytes", LanguageTest::anyBytes);
        all.holds("no call throws by itself: behind the 512th call too", LanguageTest::manyCalls);
        all.end();
    }

    /** All there is to ask, where any answer will do; read alone may throw, and only this one. */
    private static void askAll(ExpressionReader reader, boolean products) {
        try {
            reader.read(products);
        } catch (IllegalArgumentException e) {
            if (e.getClass() != IllegalArgumentException.class) {
                throw e;
            }
        }
        reader.fault();
        reader.value();
        for (int i : INTS) {
            reader.side(i);
            for (int what : INTS) {
                reader.token(i, what);
            }
        }
    }

    private static void anyArguments(Checks checks) {
        for (int n : INTS) {
            ExpressionReader reader = new ExpressionReader();
            for (long word : new long[] {Long.MIN_VALUE, -1, 0, 0x2b31L, Long.MAX_VALUE}) {
                checks.due("type of " + n, reader.type(word, n), n >= 1 && n <= 8);
            }
            reader.constant(n);
            askAll(reader, n % 2 == 0);
        }
    }

    private static void anyBytes(Checks checks) {
        Random random = new Random(7);
        String likely = "ab59x_.'\"\\;()+-*/%&|^~$<> \t,:[]0b1";
        for (int run = 0; run < 3000; run++) {
            ExpressionReader reader = new ExpressionReader();
            int words = random.nextInt(4) == 0 ? 128 : random.nextInt(6);
            for (int i = 0; i < words; i++) {
                long word = 0;
                for (int k = 0; k < 8; k++) {
                    int c = random.nextInt(200) == 0 ? random.nextInt(256) : likely.charAt(random.nextInt(likely.length()));
                    word = word << 8 | c;
                }
                checks.due("type", reader.type(word, 8), true);
            }
            askAll(reader, run % 2 == 0);
        }
    }

    /** What these calls answer is free, so that they come back is all there is to see. */
    private static void manyCalls(Checks checks) {
        ExpressionReader reader = new ExpressionReader();
        int rounds = 0;
        while (rounds < 1000) {
            int i = rounds;
            reader.type(0x6e000000L | (0x30 + i / 100) << 16 | (0x30 + i / 10 % 10) << 8 | 0x30 + i % 10, 4);
            if (i % 3 == 0) {
                reader.place();
            } else if (i % 3 == 1) {
                reader.constant(i);
            } else {
                reader.bar();
            }
            reader.type(0x6e303030L, 4);
            askAll(reader, false);
            rounds++;
        }
        checks.due("rounds of calls that came back", rounds, 1000);
    }
}
