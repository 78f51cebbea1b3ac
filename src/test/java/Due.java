import java.util.function.DoubleSupplier;
import java.util.function.LongSupplier;

/** Compares answers with those that are due, and ends a test. */
final class Due {
    private final String test;
    private String sentence = "";
    private int sentences;
    private int compared;
    private int wrong;

    Due(String test) {
        this.test = test;
    }

    /** The words of the document that the comparisons which follow hold it to. */
    void says(String words) {
        sentence = words;
        sentences++;
    }

    void is(String call, long want, LongSupplier answer) {
        compared++;
        try {
            long got = answer.getAsLong();
            if (got != want) {
                tell(call + " answered " + got + ", due is " + want);
            }
        } catch (RuntimeException e) {
            tell(call + " threw " + e + ", due is " + want);
        }
    }

    void isDouble(String call, double want, DoubleSupplier answer) {
        compared++;
        try {
            double got = answer.getAsDouble();
            if (got != want) {
                tell(call + " answered " + got + ", due is " + want);
            }
        } catch (RuntimeException e) {
            tell(call + " threw " + e + ", due is " + want);
        }
    }

    /** The exception must be of the very class: the machine's own are of classes below it. */
    void fails(String call, Class<? extends RuntimeException> want, LongSupplier answer) {
        compared++;
        try {
            tell(call + " answered " + answer.getAsLong() + ", due is " + want.getName());
        } catch (RuntimeException e) {
            if (e.getClass() != want) {
                tell(call + " threw " + e + ", due is " + want.getName());
            }
        }
    }

    /** Besides, a call that throws must leave all as it was; it costs two looks. */
    void failsAndLeaves(String call, Class<? extends RuntimeException> want, CoinLadders x,
            LongSupplier answer) {
        String before = Look.at(x);
        fails(call, want, answer);
        isTrue(call + " changes nothing, which", Look.at(x).equals(before));
    }

    void isTrue(String what, boolean holds) {
        compared++;
        if (!holds) {
            tell(what + " does not hold");
        }
    }

    private void tell(String fault) {
        wrong++;
        System.out.println(test + ": " + fault + (sentence.isEmpty() ? "" : " (\"" + sentence + "\")"));
    }

    void end() {
        String held = sentences == 0 ? "" : sentences + " sentences, ";
        System.out.println(test + ": " + held + compared + " compared, " + wrong + " wrong");
        if (wrong != 0) {
            System.exit(1);
        }
    }

    /** Appends a text in pieces of twenty bytes, the last one filled up with zeros. */
    static void append(CoinLadders x, String text) {
        for (int from = 0; from < text.length(); from += 20) {
            int[] five = new int[5];
            for (int i = 0; i < 20; i++) {
                int b = from + i < text.length() ? text.charAt(from + i) & 255 : 0;
                five[i / 4] = five[i / 4] << 8 | b;
            }
            x.append(five[0], five[1], five[2], five[3], five[4]);
        }
    }

    static int parse(CoinLadders x, String text) {
        append(x, text);
        return x.parse(text.length());
    }

    static CoinLadders game(String text) {
        CoinLadders x = new CoinLadders();
        int ladders = parse(x, text);
        if (ladders < 0) {
            throw new IllegalStateException("the test's own text is wrong: " + text + " " + ladders);
        }
        return x;
    }
}
