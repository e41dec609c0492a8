import java.util.function.LongSupplier;

/** What the tests share: answers that are due, and texts fed by the tape. */
final class Due {
    static final int REFUSED = 987654321;
    private static int wrong = 0;
    private static int asked = 0;

    private Due() {
    }

    static void due(String call, long got, long want) {
        asked++;
        if (got != want) {
            wrong++;
            if (wrong < 50) {
                System.out.println(call + " answered " + got + ", due is " + want);
            }
        }
    }

    static void due(String call, boolean got, boolean want) {
        due(call, got ? 1 : 0, want ? 1 : 0);
    }

    /** The answer of a call, or REFUSED, if it throws what the document names. */
    static long orRefused(LongSupplier call) {
        try {
            return call.getAsLong();
        } catch (java.util.NoSuchElementException e) {
            return REFUSED;
        }
    }

    static void finish(String test) {
        System.out.println(test + ": " + asked + " answers, " + wrong + " not as due");
        if (wrong != 0 || asked == 0) {
            System.exit(1);
        }
    }

    /** Puts a text, a sign a byte, on the tape, which is empty. */
    static void tape(WidowRow x, String text) {
        for (int i = 0; i < text.length(); i += 20) {
            x.feed(four(text, i), four(text, i + 4), four(text, i + 8), four(text, i + 12), four(text, i + 16));
        }
        x.end(text.length());
    }

    private static int four(String text, int from) {
        int number = 0;
        for (int i = from; i < from + 4; i++) {
            number = number << 8 | (i < text.length() ? text.charAt(i) & 255 : 0);
        }
        return number;
    }

    static int island(WidowRow x, String text) {
        tape(x, text);
        return x.island();
    }

    static int memory(WidowRow x, String text) {
        tape(x, text);
        return x.memory();
    }

    static int sentence(WidowRow x, String text) {
        tape(x, text);
        return x.sentence();
    }

    /** A new object with this island, which has no fault. */
    static WidowRow on(String text) {
        WidowRow x = new WidowRow();
        due("island of " + text, island(x, text) >= 0, true);
        return x;
    }

    static long stone(WidowRow x, int s, int what) {
        return orRefused(() -> x.stone(s, what));
    }

    /** The row as write() and byteAt() tell it. */
    static String row(WidowRow x) {
        StringBuilder all = new StringBuilder();
        int size = x.write();
        for (int i = 0; i < size; i++) {
            all.append((char) x.byteAt(i));
        }
        return all.toString();
    }

    static void row(String call, WidowRow x, String want) {
        String got = row(x);
        due(call + ": the row is '" + got + "', not '" + want + "'", got.equals(want), true);
    }

    /** Blanks, some of them 10, and then the text: so many bytes in all. */
    static String behindBlanks(int size, String text) {
        StringBuilder all = new StringBuilder();
        while (all.length() < size - text.length()) {
            all.append(all.length() % 7 == 6 ? '\n' : ' ');
        }
        return all.append(text).toString();
    }

    /** The lines of so many stones, 0 0, 0 1 and so on, dealt to these widows by turns. */
    static String stones(int n, String... widows) {
        StringBuilder all = new StringBuilder();
        int told = 0;
        for (int a = 0; a < 7; a++) {
            for (int b = a; b < 7 && told < n; b++) {
                all.append("stone ").append(a).append(" ").append(b).append(" ").append(widows[told % widows.length]);
                all.append(";");
                told++;
            }
        }
        return all.toString();
    }

    /** The lines with which all pips fit on all others. */
    static String allForgiven() {
        return "forgive 0;forgive 1;forgive 2;forgive 3;forgive 4;forgive 5;forgive 6;";
    }
}
