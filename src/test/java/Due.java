import java.util.function.LongSupplier;

/** What the tests share: answers that are due, and texts fed by the tape. */
final class Due {
    static final int REFUSED = 987654321;
    private static int wrong = 0;
    private static int asked = 0;

    private Due() {
    }

    static void due(String call, long got, long want) {
        asked++;
        if (got != want) {
            wrong++;
            if (wrong < 50) {
                System.out.println(call + " answered " + got + ", due is " + want);
            }
        }
    }

    static void due(String call, boolean got, boolean want) {
        due(call, got ? 1 : 0, want ? 1 : 0);
    }

    /** The answer of a call, or REFUSED, if it throws what the document names. */
    static long orRefused(LongSupplier call) {
        try {
            return call.getAsLong();
        } catch (java.util.NoSuchElementException e) {
            return REFUSED;
        }
    }

    static void finish(String test) {
        System.out.println(test + ": " + asked + " answers, " + wrong + " not as due");
        if (wrong != 0 || asked == 0) {
            System.exit(1);
        }
    }

    /** Puts a text, a sign a byte, on the tape, which is empty. */
    static void tape(WidowRow x, String text) {
        for (int i = 0; i < text.length(); i += 20) {
            x.feed(four(text, i), four(text, i + 4), four(text, i + 8), four(text, i + 12), four(text, i + 16));
        }
        x.end(text.length());
    }

    private static int four(String text, int from) {
        int number = 0;
        for (int i = from; i < from + 4; i++) {
            number = number << 8 | (i < text.length() ? text.charAt(i) & 255 : 0);
        }
        return number;
    }

    static int island(WidowRow x, String text) {
        tape(x, text);
        return x.island();
    }

    static int memory(WidowRow x, String text) {
        tape(x, text);
        return x.memory();
    }

    static int sentence(WidowRow x, String text) {
        tape(x, text);
        return x.sentence();
    }
}
