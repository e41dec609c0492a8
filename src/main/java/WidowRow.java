import java.util.Arrays;
import java.util.NoSuchElementException;

/**
 * Domino of the widows: one row of stones through the houses of an island's widows.
 *
 * All rows of numbers are made once, by the constructors: no other call makes an object, so
 * that a run needs no more room for its last call than for its first one.
 */
public final class WidowRow {
    public static final int NONE = -1;

    private static final int TAPE_BYTES = 940;
    private static final int FED_BYTES = 20;
    private static final int WIDOWS = 6;
    private static final int STONES = 28;
    private static final int PIPS = 7;
    private static final int UNDOABLE = 8;
    /** Room for the widest of the searches, the dealing of 28 stones to 6 widows: 32400 sums. */
    private static final int TABLE = 32768;

    private final byte[] tape = new byte[TAPE_BYTES];
    private int tapeLength = 0;
    private final Tokens tokens = new Tokens(tape);
    private final World now = new World();
    /** Texts are read into this one first, for what stands stays when there is a fault. */
    private final World fresh = new World();
    private final World image0 = new World();
    private final World image1 = new World();
    private final Row[] past = new Row[UNDOABLE];
    private int pastCount = 0;
    private int pastNext = 0;
    private final Row trial = new Row(now.island);
    private final long[] table = new long[TABLE];
    private final Chain chain = new Chain(now.row, table);
    private final Round round = new Round(now.row, table);
    private final Match match = new Match(now.row, table);
    private final Dealer dealer = new Dealer(now.island, now.memory, table);
    private final Days calendar = new Days(now.row);
    private final byte[] text = new byte[4 * STONES];
    private int textLength = 0;

    public WidowRow() {
        for (int i = 0; i < UNDOABLE; i++) {
            past[i] = new Row(now.island);
        }
    }

    public int feed(int a, int b, int c, int d, int e) {
        if (tapeLength > TAPE_BYTES - FED_BYTES) {
            return NONE;
        }
        feedFour(a);
        feedFour(b);
        feedFour(c);
        feedFour(d);
        feedFour(e);
        return tapeLength;
    }

    private void feedFour(int number) {
        for (int shift = 24; shift >= 0 && tapeLength < TAPE_BYTES; shift -= 8) {
            tape[tapeLength] = (byte) (number >> shift);
            tapeLength++;
        }
    }

    public boolean end(int n) {
        if (n < 0 || n > tapeLength) {
            return false;
        }
        tapeLength = n;
        return true;
    }

    public int island() {
        takeTape(Island.BYTES);
        if (!fresh.island.readAll(tokens)) {
            return -1 - tokens.place;
        }
        now.settle(fresh.island);
        pastCount = 0;
        return now.island.lines;
    }

    public int fault() {
        return tokens.fault;
    }

    public int stone(int s, int what) throws NoSuchElementException {
        if (!isStone(s)) {
            throw new NoSuchElementException("no such stone");
        }
        switch (what) {
            case 0:
                return now.island.one[s];
            case 1:
                return now.island.two[s];
            case 2:
                return now.row.owner[s];
            case 3:
                return now.row.where[s];
            case 4:
                return now.row.placeOf(s);
            case 5:
                return now.row.where[s] == Row.LAID ? now.row.owner[s] : NONE;
            default:
                throw new NoSuchElementException("nothing such is told of a stone");
        }
    }

    public int find(int a, int b) {
        return now.island.stoneWith(a, b);
    }

    public int widow(int w, int what) {
        if (!isWidow(w)) {
            return NONE;
        }
        switch (what) {
            case 0:
                return now.row.owned(w, Row.HAND) + now.row.owned(w, Row.PAWN) + now.row.owned(w, Row.LAID);
            case 1:
                return now.row.owned(w, Row.HAND);
            case 2:
                return now.row.owned(w, Row.PAWN);
            case 3:
                return now.row.pipsInHand(w);
            case 4:
                return now.row.paid[w];
            case 5:
                return now.row.had[w];
            default:
                return NONE;
        }
    }

    public int fits(int n, int m) {
        if (!isPips(n) || !isPips(m)) {
            return NONE;
        }
        return now.island.fit(n, m) ? 1 : 0;
    }

    public int at(int i) {
        return i >= 0 && i < now.row.length ? now.row.line[i] : NONE;
    }

    public int pips(int end) {
        return isEnd(end) ? now.row.outer(end) : NONE;
    }

    public int why(int w, int s, int end) {
        if (!isWidow(w) || !isStone(s) || !isEnd(end)) {
            return NONE;
        }
        return now.row.refusal(w, s, end);
    }

    public int lay(int w, int s, int end) {
        if (!isWidow(w) || !isStone(s) || !isEnd(end)) {
            return NONE;
        }
        int refusal = now.row.refusal(w, s, end);
        if (refusal == 0) {
            keepPast();
            now.row.put(s, end);
        }
        return refusal;
    }

    public int cat(int end) {
        if (!isEnd(end) || now.row.length == 0) {
            return NONE;
        }
        keepPast();
        return now.row.takeOff(end);
    }

    public int tide() {
        if (now.row.length == 0) {
            return NONE;
        }
        keepPast();
        now.row.turnLast();
        return now.row.outer(1);
    }

    public int pawn(int s) {
        if (!isStone(s) || now.row.where[s] != Row.HAND) {
            return NONE;
        }
        keepPast();
        now.row.where[s] = Row.PAWN;
        return now.island.together(s) * now.island.worth;
    }

    public boolean redeem(int s) {
        if (!isStone(s) || now.row.where[s] != Row.PAWN) {
            return false;
        }
        keepPast();
        now.row.where[s] = Row.HAND;
        return true;
    }

    public int will(int w, int heir) {
        if (!isWidow(w) || !isWidow(heir) || w == heir) {
            return NONE;
        }
        keepPast();
        return now.row.bequeath(w, heir);
    }

    public int undo() {
        if (pastCount == 0) {
            return NONE;
        }
        pastNext = (pastNext + UNDOABLE - 1) % UNDOABLE;
        pastCount--;
        Row before = past[pastNext];
        if (before != null) {
            now.row.copyFrom(before);
        }
        return pastCount;
    }

    /** The rows of the past stand in a ring, so that the ninth takes the oldest one's place. */
    private void keepPast() {
        Row before = past[pastNext];
        if (before != null) {
            before.copyFrom(now.row);
        }
        pastNext = (pastNext + 1) % UNDOABLE;
        pastCount = Math.min(pastCount + 1, UNDOABLE);
    }

    public int visits(int w) {
        if (!isWidow(w)) {
            return NONE;
        }
        int hosts = 0;
        for (int end = 0; end <= 1; end++) {
            if (now.row.length > 0 && now.row.hasFor(w, end)) {
                hosts |= 1 << now.row.layerAt(end);
            }
        }
        return hosts;
    }

    public int able(int end) {
        if (!isEnd(end)) {
            return NONE;
        }
        int bits = 0;
        for (int w = 0; w < now.island.widows; w++) {
            if (now.row.hasFor(w, end)) {
                bits |= 1 << w;
            }
        }
        return bits;
    }

    public int longest() {
        return chain.findLongest();
    }

    public int longAt(int i) {
        return i >= 0 && i < chain.length ? chain.path[i] : NONE;
    }

    public int all() {
        return round.findFewest();
    }

    public int allAt(int i) {
        return i >= 0 && i < round.length ? round.path[i] : NONE;
    }

    public int game(int a, int b) {
        if (!isWidow(a) || !isWidow(b) || a == b || now.row.length == 0) {
            return Match.NOT_AS_TOLD;
        }
        return match.judge(a, b);
    }

    public int first() {
        return match.best;
    }

    public int open(int end) {
        if (!isEnd(end)) {
            return NONE;
        }
        int bits = 0;
        for (int s = 0; s < now.island.stones; s++) {
            if (now.row.where[s] == Row.HAND && now.row.goesTo(s, end)) {
                bits |= 1 << s;
            }
        }
        return bits;
    }

    public int stretch() {
        int most = 0;
        int sinceGap = 0;
        for (int i = 0; i < now.row.length; i++) {
            sinceGap = i > 0 && now.row.joined(i) ? sinceGap + 1 : 1;
            most = Math.max(most, sinceGap);
        }
        return most;
    }

    public int leads(int n, int m) {
        return isPips(n) && isPips(m) ? chain.fewestBetween(n, m) : NONE;
    }

    public int dearest() {
        int best = NONE;
        int most = 0;
        for (int w = 0; w < now.island.widows; w++) {
            int more = now.row.paid[w] - now.row.had[w];
            if (best == NONE || more > most) {
                best = w;
                most = more;
            }
        }
        return best;
    }

    public int counts(int n, int what) {
        if (!isPips(n) || what < Row.HAND || what > Row.LAID) {
            return NONE;
        }
        int often = 0;
        for (int s = 0; s < now.island.stones; s++) {
            if (now.row.where[s] == what) {
                often += (now.island.one[s] == n ? 1 : 0) + (now.island.two[s] == n ? 1 : 0);
            }
        }
        return often;
    }

    public int greedy() {
        trial.copyFrom(now.row);
        int laid = 0;
        while (laid < STONES && trial.putFirst()) {
            laid++;
        }
        return laid;
    }

    public int memory() {
        takeTape(Memory.BYTES);
        if (!fresh.memory.readAll(tokens, now.island)) {
            return -1 - tokens.place;
        }
        now.memory.copyFrom(fresh.memory);
        return now.memory.lines;
    }

    public long dealings() {
        return dealer.ways(NONE, NONE);
    }

    public long whose(int s, int w) {
        if (!isStone(s) || !isWidow(w)) {
            return NONE;
        }
        return now.memory.hasSeen(s) ? 0 : dealer.ways(s, w);
    }

    public int sure(int w) {
        return isWidow(w) ? dealer.certain(w) : NONE;
    }

    public int days(int n, int seed) {
        if (n < 1 || n > Days.MOST || now.island.widows == 0) {
            return NONE;
        }
        keepPast();
        return calendar.live(n, seed);
    }

    public int drawn(int what) {
        if (!calendar.any) {
            return NONE;
        }
        switch (what) {
            case 0:
                return calendar.cats;
            case 1:
                return calendar.tides;
            case 2:
                return calendar.refused;
            default:
                return NONE;
        }
    }

    public int write() {
        textLength = 0;
        for (int i = 0; i < now.row.length; i++) {
            writePips(now.row.sideOf(now.row.line[i], 0));
            writePips(now.row.sideOf(now.row.line[i], 1));
        }
        return textLength;
    }

    private void writePips(int n) {
        if (textLength > 0) {
            writeByte(' ');
        }
        writeByte('0' + n);
    }

    private void writeByte(int b) {
        if (textLength < text.length) {
            text[textLength] = (byte) b;
            textLength++;
        }
    }

    public int byteAt(int i) {
        return i >= 0 && i < textLength ? text[i] & 255 : NONE;
    }

    public int gaps(int k) {
        int found = 0;
        for (int i = 1; i < now.row.length; i++) {
            if (!now.row.joined(i)) {
                if (found == k) {
                    return i;
                }
                found++;
            }
        }
        return k == NONE ? found : NONE;
    }

    public int sentence() {
        takeTape(Sentence.BYTES);
        if (!fresh.sentence.readAll(tokens, now.island)) {
            return -1 - tokens.place;
        }
        now.sentence.copyFrom(fresh.sentence);
        return now.sentence.ones;
    }

    public int said(int k) {
        if (now.sentence.ones == 0) {
            return NONE;
        }
        int bits = now.sentence.trueOf(now.row);
        int found = 0;
        for (int s = 0; s < now.island.stones; s++) {
            if ((bits >> s & 1) != 0) {
                if (found == k) {
                    return s;
                }
                found++;
            }
        }
        return k == NONE ? found : NONE;
    }

    public boolean image(int k) {
        if (!isPlace(k)) {
            return false;
        }
        World place = k == 0 ? image0 : image1;
        place.copyFrom(now);
        place.kept = true;
        return true;
    }

    public boolean restore(int k) {
        if (!isPlace(k)) {
            return false;
        }
        World place = k == 0 ? image0 : image1;
        if (!place.kept) {
            return false;
        }
        now.copyFrom(place);
        pastCount = 0;
        return true;
    }

    public int count(int what) {
        switch (what) {
            case 0:
                return now.island.widows;
            case 1:
                return now.island.stones;
            case 2:
                return now.island.forgiven;
            case 3:
                return now.island.quarrels;
            case 4:
                return now.island.worth;
            case 5:
                return now.row.length;
            case 6:
                return now.memory.lines;
            case 7:
                return tapeLength;
            default:
                return NONE;
        }
    }

    private void takeTape(int limit) {
        tokens.begin(tapeLength, limit);
        tapeLength = 0;
    }

    private boolean isStone(int s) {
        return s >= 0 && s < now.island.stones;
    }

    private boolean isWidow(int w) {
        return w >= 0 && w < now.island.widows;
    }

    private static boolean isEnd(int end) {
        return end == 0 || end == 1;
    }

    private static boolean isPlace(int k) {
        return k == 0 || k == 1;
    }

    private static boolean isPips(int n) {
        return n >= 0 && n < PIPS;
    }

    /** The tokens of a text one after another, and the text's fault. */
    private static final class Tokens {
        static final int END = 0;
        /** There are more bytes than such a text may have. */
        static final int OVER = 1;
        static final int WRONG = 2;
        static final int WORD = 3;
        static final int NUMBER = 4;
        static final int SIGN = 5;

        static final int CANNOT_COME = 1;
        static final int NOT_AS_TOLD = 2;
        static final int NOT_ONCE = 3;
        static final int TOO_MANY = 4;

        /** No widow may have one of these as her name; the numbers below are their order. */
        private static final String KEYS =
                "widow stone forgive quarrel pawn deal seen passed or and not double laid held of fits pips high low place ";
        static final int NAME = 0;
        static final int WIDOW = 1;
        static final int STONE = 2;
        static final int FORGIVE = 3;
        static final int QUARREL = 4;
        static final int PAWN = 5;
        static final int DEAL = 6;
        static final int SEEN = 7;
        static final int PASSED = 8;
        static final int OR = 9;
        static final int AND = 10;
        static final int NOT = 11;
        static final int DOUBLE = 12;
        static final int LAID = 13;
        static final int HELD = 14;
        static final int OF = 15;
        static final int FITTING = 16;
        static final int TOGETHER = 17;
        static final int HIGH = 18;
        static final int LOW = 19;
        static final int PLACE = 20;

        private static final int MOST_LETTERS = 7;
        private static final int MOST_DIGITS = 3;

        private final byte[] bytes;
        private int length = 0;
        private int limit = 0;
        private int next = 0;
        int kind = END;
        int from = 0;
        int key = NAME;
        /** A word's letters, five bits each: as a number, so that no text has to be made. */
        long name = 0;
        int number = 0;
        int sign = 0;
        int one = 0;
        int two = 0;
        int fault = 0;
        int place = 0;

        Tokens(byte[] bytes) {
            this.bytes = bytes;
        }

        void begin(int length, int limit) {
            this.length = Math.min(length, bytes.length);
            this.limit = limit;
            next = 0;
            fault = 0;
            place = 0;
            step();
        }

        /** Goes on to the next token. */
        void step() {
            key = NAME;
            sign = 0;
            while (next < length && (bytes[next] == 32 || bytes[next] == 10)) {
                next++;
            }
            from = next;
            if (next >= length || next >= limit) {
                kind = length > limit ? OVER : END;
                from = Math.min(length, limit);
                return;
            }
            readRun();
            if (next == from) {
                readSign();
            } else if (kind == WORD) {
                key = keyHere();
            }
        }

        private void readSign() {
            int c = bytes[next] & 255;
            kind = ";<=>()".indexOf((char) c) >= 0 ? SIGN : WRONG;
            sign = c;
            next++;
        }

        /** A run too long wraps the numbers made of it, which nobody asks for then. */
        private void readRun() {
            int letters = 0;
            int digits = 0;
            name = 0;
            number = 0;
            for (; next < length; next++) {
                int c = bytes[next];
                if (c >= 'a' && c <= 'z') {
                    letters++;
                    name = name << 5 | c & 31;
                } else if (c >= '0' && c <= '9') {
                    digits++;
                    number = 10 * number + c - '0';
                } else {
                    break;
                }
            }
            kind = WRONG;
            if (digits == 0 && letters <= MOST_LETTERS) {
                kind = WORD;
            } else if (letters == 0 && digits <= MOST_DIGITS) {
                kind = NUMBER;
            }
        }

        private int keyHere() {
            int order = 1;
            long word = 0;
            for (int i = 0; i < KEYS.length(); i++) {
                char c = KEYS.charAt(i);
                if (c != ' ') {
                    word = word << 5 | c & 31;
                } else if (word == name) {
                    return order;
                } else {
                    order++;
                    word = 0;
                }
            }
            return NAME;
        }

        boolean fail(int kindOfFault) {
            fault = kindOfFault;
            place = from;
            return false;
        }

        boolean isName() {
            return kind == WORD && key == NAME;
        }

        boolean isSign(char c) {
            return kind == SIGN && sign == c;
        }

        /** Goes on over a sign that has to stand here. */
        boolean passes(char c) {
            if (!isSign(c)) {
                return fail(CANNOT_COME);
            }
            step();
            return true;
        }

        /** The number that has to stand here, which is at most so much; NONE with a fault. */
        int numberTo(int most) {
            if (kind != NUMBER) {
                fail(CANNOT_COME);
                return NONE;
            }
            if (number > most) {
                fail(NOT_AS_TOLD);
                return NONE;
            }
            return number;
        }

        /** Does not go on over the second ones, for what both together do wrong is told there. */
        boolean readTwoPips() {
            one = numberTo(PIPS - 1);
            if (one == NONE) {
                return false;
            }
            step();
            two = numberTo(PIPS - 1);
            return two != NONE;
        }
    }

    /** All that an image keeps. */
    private static final class World {
        final Island island = new Island();
        final Row row = new Row(island);
        final Memory memory = new Memory();
        final Sentence sentence = new Sentence();
        boolean kept = false;

        void copyFrom(World other) {
            island.copyFrom(other.island);
            row.copyFrom(other.row);
            memory.copyFrom(other.memory);
            sentence.copyFrom(other.sentence);
        }

        void settle(Island told) {
            island.copyFrom(told);
            row.begin();
            memory.clear();
            sentence.clear();
        }
    }

    /** What the text of an island tells. */
    private static final class Island {
        static final int BYTES = 900;
        private static final int MOST_LINES = BYTES;
        private static final int MOST_WORTH = 99;
        private static final int WORTH = 5;

        int lines = 0;
        int widows = 0;
        int stones = 0;
        int forgiven = 0;
        int quarrels = 0;
        int worth = WORTH;
        private boolean worthTold = false;
        private final long[] names = new long[WIDOWS];
        /** The pips of the stones as told, and whose they are at first. */
        final int[] one = new int[STONES];
        final int[] two = new int[STONES];
        final int[] teller = new int[STONES];
        private final int[] angry = new int[PIPS];
        /** For each pips, as bits, on which others they fit. */
        final int[] fitting = new int[PIPS];

        Island() {
            findFitting();
        }

        private void clear() {
            lines = 0;
            widows = 0;
            stones = 0;
            forgiven = 0;
            quarrels = 0;
            worth = WORTH;
            worthTold = false;
            Arrays.fill(angry, 0);
        }

        void copyFrom(Island other) {
            lines = other.lines;
            widows = other.widows;
            stones = other.stones;
            forgiven = other.forgiven;
            quarrels = other.quarrels;
            worth = other.worth;
            worthTold = other.worthTold;
            System.arraycopy(other.names, 0, names, 0, WIDOWS);
            System.arraycopy(other.one, 0, one, 0, STONES);
            System.arraycopy(other.two, 0, two, 0, STONES);
            System.arraycopy(other.teller, 0, teller, 0, STONES);
            System.arraycopy(other.angry, 0, angry, 0, PIPS);
            System.arraycopy(other.fitting, 0, fitting, 0, PIPS);
        }

        boolean readAll(Tokens t) {
            clear();
            while (lines < MOST_LINES && t.kind != Tokens.END) {
                if (!readLine(t) || !t.passes(';')) {
                    return false;
                }
                lines++;
            }
            findFitting();
            return true;
        }

        private boolean readLine(Tokens t) {
            switch (t.key) {
                case Tokens.WIDOW:
                    return readWidow(t);
                case Tokens.STONE:
                    return readStone(t);
                case Tokens.FORGIVE:
                    return readForgive(t);
                case Tokens.QUARREL:
                    return readQuarrel(t);
                case Tokens.PAWN:
                    return readPawn(t);
                default:
                    return t.fail(Tokens.CANNOT_COME);
            }
        }

        private boolean readWidow(Tokens t) {
            if (widows >= WIDOWS) {
                return t.fail(Tokens.TOO_MANY);
            }
            t.step();
            if (!t.isName()) {
                return t.fail(Tokens.CANNOT_COME);
            }
            if (widowNamed(t.name) != NONE) {
                return t.fail(Tokens.NOT_ONCE);
            }
            names[widows] = t.name;
            widows++;
            t.step();
            return true;
        }

        private boolean readStone(Tokens t) {
            if (stones >= STONES) {
                return t.fail(Tokens.TOO_MANY);
            }
            t.step();
            if (!t.readTwoPips()) {
                return false;
            }
            if (stoneWith(t.one, t.two) != NONE) {
                return t.fail(Tokens.NOT_ONCE);
            }
            t.step();
            int w = widowHere(t);
            if (w == NONE) {
                return false;
            }
            one[stones] = t.one;
            two[stones] = t.two;
            teller[stones] = w;
            stones++;
            t.step();
            return true;
        }

        private boolean readForgive(Tokens t) {
            t.step();
            int n = t.numberTo(PIPS - 1);
            if (n == NONE) {
                return false;
            }
            if (isForgiven(n)) {
                return t.fail(Tokens.NOT_ONCE);
            }
            forgiven |= 1 << n;
            t.step();
            return true;
        }

        private boolean readQuarrel(Tokens t) {
            t.step();
            if (!t.readTwoPips()) {
                return false;
            }
            if (areAngry(t.one, t.two)) {
                return t.fail(Tokens.NOT_ONCE);
            }
            angry[t.one] |= 1 << t.two;
            angry[t.two] |= 1 << t.one;
            quarrels++;
            t.step();
            return true;
        }

        private boolean readPawn(Tokens t) {
            if (worthTold) {
                return t.fail(Tokens.NOT_ONCE);
            }
            t.step();
            int n = t.numberTo(MOST_WORTH);
            if (n == NONE) {
                return false;
            }
            worth = n;
            worthTold = true;
            t.step();
            return true;
        }

        /** The widow whose name has to stand here; NONE with a fault. */
        int widowHere(Tokens t) {
            if (!t.isName()) {
                t.fail(Tokens.CANNOT_COME);
                return NONE;
            }
            int w = widowNamed(t.name);
            if (w == NONE) {
                t.fail(Tokens.NOT_ONCE);
            }
            return w;
        }

        private int widowNamed(long name) {
            for (int w = 0; w < widows; w++) {
                if (names[w] == name) {
                    return w;
                }
            }
            return NONE;
        }

        int stoneWith(int a, int b) {
            for (int s = 0; s < stones; s++) {
                if (one[s] == a && two[s] == b || one[s] == b && two[s] == a) {
                    return s;
                }
            }
            return NONE;
        }

        int together(int s) {
            return one[s] + two[s];
        }

        private boolean isForgiven(int n) {
            return (forgiven >> n & 1) != 0;
        }

        private boolean areAngry(int n, int m) {
            return (angry[n] >> m & 1) != 0;
        }

        private void findFitting() {
            for (int n = 0; n < PIPS; n++) {
                fitting[n] = 0;
                for (int m = 0; m < PIPS; m++) {
                    if (!areAngry(n, m) && (n == m || isForgiven(n) || isForgiven(m))) {
                        fitting[n] |= 1 << m;
                    }
                }
            }
        }

        boolean fit(int n, int m) {
            return n >= 0 && n < PIPS && m >= 0 && m < PIPS && (fitting[n] >> m & 1) != 0;
        }
    }

    /** The row, and where and whose all stones are. Whose a laid stone is, she has laid it. */
    private static final class Row {
        static final int HAND = 0;
        static final int PAWN = 1;
        static final int LAID = 2;

        final Island island;
        final int[] owner = new int[STONES];
        final int[] where = new int[STONES];
        /** The stones of the row from the left. */
        final int[] line = new int[STONES];
        int length = 0;
        /** 1 for a stone that lies with its second pips to the left. */
        private final int[] turned = new int[STONES];
        final int[] paid = new int[WIDOWS];
        final int[] had = new int[WIDOWS];

        Row(Island island) {
            this.island = island;
        }

        void begin() {
            length = 0;
            Arrays.fill(where, HAND);
            Arrays.fill(turned, 0);
            Arrays.fill(paid, 0);
            Arrays.fill(had, 0);
            System.arraycopy(island.teller, 0, owner, 0, STONES);
        }

        void copyFrom(Row other) {
            length = other.length;
            System.arraycopy(other.owner, 0, owner, 0, STONES);
            System.arraycopy(other.where, 0, where, 0, STONES);
            System.arraycopy(other.line, 0, line, 0, STONES);
            System.arraycopy(other.turned, 0, turned, 0, STONES);
            System.arraycopy(other.paid, 0, paid, 0, WIDOWS);
            System.arraycopy(other.had, 0, had, 0, WIDOWS);
        }

        int placeOf(int s) {
            for (int i = 0; i < length; i++) {
                if (line[i] == s) {
                    return i + 1;
                }
            }
            return 0;
        }

        int owned(int w, int place) {
            int found = 0;
            for (int s = 0; s < island.stones; s++) {
                if (owner[s] == w && where[s] == place) {
                    found++;
                }
            }
            return found;
        }

        int pipsInHand(int w) {
            int sum = 0;
            for (int s = 0; s < island.stones; s++) {
                if (isHeldBy(w, s)) {
                    sum += island.together(s);
                }
            }
            return sum;
        }

        boolean isHeldBy(int w, int s) {
            return owner[s] == w && where[s] == HAND;
        }

        /** The stone at an end of a row that is not empty. */
        private int lastAt(int end) {
            return end == 0 || length == 0 ? line[0] : line[length - 1];
        }

        int layerAt(int end) {
            return owner[lastAt(end)];
        }

        /** The left (0) or right (1) pips of a stone as it lies. */
        int sideOf(int s, int side) {
            return side == turned[s] ? island.one[s] : island.two[s];
        }

        int outer(int end) {
            return length == 0 ? NONE : sideOf(lastAt(end), end);
        }

        boolean joined(int i) {
            return i > 0 && i < length && island.fit(sideOf(line[i - 1], 1), sideOf(line[i], 0));
        }

        /** Whether a stone can lie at an end, no matter who lays it. */
        boolean goesTo(int s, int end) {
            int outer = outer(end);
            return length == 0 || island.fit(island.one[s], outer) || island.fit(island.two[s], outer);
        }

        int refusal(int w, int s, int end) {
            if (!isHeldBy(w, s)) {
                return 1;
            }
            if (length > 0 && layerAt(end) == w) {
                return 2;
            }
            return goesTo(s, end) ? 0 : 3;
        }

        boolean hasFor(int w, int end) {
            for (int s = 0; s < island.stones; s++) {
                if (refusal(w, s, end) == 0) {
                    return true;
                }
            }
            return false;
        }

        /** Lays a stone that can be laid there. */
        void put(int s, int end) {
            turned[s] = 0;
            if (length > 0) {
                boolean firstInside = island.fit(island.one[s], outer(end));
                turned[s] = firstInside == (end == 1) ? 0 : 1;
                paid[owner[s]]++;
                had[layerAt(end)]++;
            }
            if (end == 0) {
                shiftRight();
            }
            int place = end == 0 ? 0 : length;
            if (place < STONES) {
                line[place] = s;
            }
            length = Math.min(length + 1, STONES);
            where[s] = LAID;
        }

        private void shiftRight() {
            for (int i = Math.min(length, STONES - 1); i > 0; i--) {
                line[i] = line[i - 1];
            }
        }

        int takeOff(int end) {
            int s = lastAt(end);
            if (end == 0) {
                for (int i = 1; i < length; i++) {
                    line[i - 1] = line[i];
                }
            }
            length = Math.max(length - 1, 0);
            where[s] = HAND;
            return s;
        }

        void turnLast() {
            int s = lastAt(1);
            turned[s] = 1 - turned[s];
        }

        int bequeath(int w, int heir) {
            int moved = 0;
            for (int s = 0; s < island.stones; s++) {
                if (owner[s] == w && where[s] != LAID) {
                    owner[s] = heir;
                    moved++;
                }
            }
            return moved;
        }

        /** Lays the first stone that can be laid, at the left end if it can be there. */
        boolean putFirst() {
            for (int s = 0; s < island.stones; s++) {
                for (int end = 0; end <= 1; end++) {
                    if (refusal(owner[s], s, end) == 0) {
                        put(s, end);
                        return true;
                    }
                }
            }
            return false;
        }

        /** The i-th stone in a widow's hand by numbers. */
        int heldAt(int w, int i) {
            int found = 0;
            for (int s = 0; s < island.stones; s++) {
                if (isHeldBy(w, s)) {
                    if (found == i) {
                        return s;
                    }
                    found++;
                }
            }
            return NONE;
        }

        /** Puts the numbers of all stones in hands into a row: how many; NONE, if it is too short. */
        int gather(int[] hand) {
            int found = 0;
            for (int s = 0; s < island.stones; s++) {
                if (where[s] == HAND) {
                    if (found >= hand.length) {
                        return NONE;
                    }
                    hand[found] = s;
                    found++;
                }
            }
            return found;
        }
    }

    /** Stones laid one after another at the right end, no matter by whom. */
    private static final class Chain {
        private static final int MOST = 12;
        /** Stands for the pips at the end of an empty row: any others fit there. */
        private static final int EMPTY = 7;
        /** Where in the table the pips stand from which a longest chain can still be had. */
        private static final int USEFUL = 1 << MOST;

        private final Row row;
        private final Island island;
        private final long[] table;
        private final int[] hand = new int[MOST];
        private int size = 0;
        final int[] path = new int[MOST];
        int length = 0;

        Chain(Row row, long[] table) {
            this.row = row;
            this.island = row.island;
            this.table = table;
        }

        int findLongest() {
            size = row.gather(hand);
            if (size == NONE) {
                return NONE;
            }
            int start = row.length == 0 ? EMPTY : row.outer(1);
            spread(start);
            length = 0;
            for (int used = 0; used < 1 << size; used++) {
                if (table[used] != 0) {
                    length = Math.max(length, Integer.bitCount(used));
                }
            }
            markUseful();
            walk(start);
            return length;
        }

        int fewestBetween(int n, int m) {
            size = row.gather(hand);
            if (size == NONE) {
                return NONE;
            }
            spread(n);
            int fewest = NONE;
            for (int used = 0; used < 1 << size; used++) {
                int laid = Integer.bitCount(used);
                if ((table[used] & island.fitting[m]) != 0 && (fewest == NONE || laid < fewest)) {
                    fewest = laid;
                }
            }
            return fewest;
        }

        /** Finds for each set of stones laid, as bits, with which pips it can end. */
        private void spread(int start) {
            Arrays.fill(table, 0, 1 << size, 0L);
            table[0] = 1L << start;
            for (int used = 0; used < 1 << size; used++) {
                for (int i = 0; i < size && table[used] != 0; i++) {
                    if ((used >> i & 1) == 0) {
                        spreadOver(used, i);
                    }
                }
            }
        }

        private void spreadOver(int used, int i) {
            int then = used | 1 << i;
            int a = island.one[hand[i]];
            int b = island.two[hand[i]];
            if ((table[used] & ahead(a)) != 0) {
                table[then] |= 1L << b;
            }
            if ((table[used] & ahead(b)) != 0) {
                table[then] |= 1L << a;
            }
        }

        /** Behind which pips, as bits, these can lie. */
        private long ahead(int pips) {
            return island.fitting[pips] | 1 << EMPTY;
        }

        private void markUseful() {
            for (int used = (1 << size) - 1; used >= 0; used--) {
                int laid = Integer.bitCount(used);
                table[USEFUL + used] = laid == length ? table[used] : 0;
                for (int i = 0; i < size && laid < length && table[used] != 0; i++) {
                    if ((used >> i & 1) == 0) {
                        table[USEFUL + used] |= table[used] & usefulBy(used, i);
                    }
                }
            }
        }

        /** From which pips, as bits, stone i leads on to a longest chain. */
        private long usefulBy(int used, int i) {
            long then = table[USEFUL + (used | 1 << i)];
            int a = island.one[hand[i]];
            int b = island.two[hand[i]];
            return ((then >> b & 1) != 0 ? ahead(a) : 0) | ((then >> a & 1) != 0 ? ahead(b) : 0);
        }

        private void walk(int start) {
            int used = 0;
            int pips = start;
            for (int k = 0; k < length; k++) {
                int move = firstUseful(used, pips);
                int s = hand[move >> 1];
                path[k] = 2 * s + (move & 1);
                used |= 1 << (move >> 1);
                pips = (move & 1) == 0 ? island.two[s] : island.one[s];
            }
        }

        /** Twice the place in the hand, 1 more if the stone lies turned. */
        private int firstUseful(int used, int pips) {
            for (int move = 0; move < 2 * size; move++) {
                int i = move >> 1;
                int inner = (move & 1) == 0 ? island.one[hand[i]] : island.two[hand[i]];
                int outer = island.together(hand[i]) - inner;
                if ((used >> i & 1) == 0 && (ahead(inner) >> pips & 1) != 0
                        && (table[USEFUL + (used | 1 << i)] >> outer & 1) != 0) {
                    return move;
                }
            }
            return 0;
        }
    }

    /** The fewest stones till each widow with a stone in hand has laid one. */
    private static final class Round {
        private static final int MOST = 10;
        /**
         * What can be at an end: stone i of those in hands with its first pips outside (2 i) or
         * its second ones (2 i + 1), the row's own left or right end, or nothing.
         */
        private static final int OWN_LEFT = 2 * MOST;
        private static final int OWN_RIGHT = OWN_LEFT + 1;
        private static final int NOTHING = OWN_LEFT + 2;

        private final Row row;
        private final Island island;
        private final long[] table;
        private final int[] hand = new int[MOST];
        private int size = 0;
        private final int[] handOf = new int[WIDOWS];
        private final int[] outside = new int[NOTHING + 1];
        private final int[] layer = new int[NOTHING + 1];
        private final int[] trail = new int[MOST];
        private int most = 0;
        private boolean cut = false;
        final int[] path = new int[MOST];
        int length = 0;

        Round(Row row, long[] table) {
            this.row = row;
            this.island = row.island;
            this.table = table;
        }

        /** Looks for ever longer rounds, so that the first one found is one of the shortest. */
        int findFewest() {
            size = row.gather(hand);
            if (size == NONE) {
                return NONE;
            }
            prepare();
            int left = row.length == 0 ? NOTHING : OWN_LEFT;
            int right = row.length == 0 ? NOTHING : OWN_RIGHT;
            for (most = missing(0); most <= size; most++) {
                cut = false;
                Arrays.fill(table, 0, placeOf(1 << size, 0, 0) >> 6, 0L);
                if (search(0, left, right, 0)) {
                    length = most;
                    System.arraycopy(trail, 0, path, 0, MOST);
                    return length;
                }
                if (!cut) {
                    return NONE;
                }
            }
            return NONE;
        }

        private void prepare() {
            Arrays.fill(handOf, 0);
            for (int i = 0; i < size; i++) {
                int s = hand[i];
                handOf[row.owner[s]] |= 1 << i;
                outside[2 * i] = island.one[s];
                outside[2 * i + 1] = island.two[s];
                layer[2 * i] = row.owner[s];
                layer[2 * i + 1] = row.owner[s];
            }
            outside[OWN_LEFT] = row.outer(0);
            outside[OWN_RIGHT] = row.outer(1);
            layer[OWN_LEFT] = row.layerAt(0);
            layer[OWN_RIGHT] = row.layerAt(1);
        }

        /** How many widows have a stone in hand, and none of those that were laid is theirs. */
        private int missing(int used) {
            int found = 0;
            for (int w = 0; w < WIDOWS; w++) {
                if (handOf[w] != 0 && (handOf[w] & used) == 0) {
                    found++;
                }
            }
            return found;
        }

        private boolean search(int used, int left, int right, int depth) {
            int missing = missing(used);
            if (missing == 0) {
                return true;
            }
            if (missing > most - depth || depth >= MOST) {
                cut = true;
                return false;
            }
            if (!enter(placeOf(used, left, right))) {
                return false;
            }
            for (int move = 0; move < 2 * size; move++) {
                trail[depth] = 2 * hand[move >> 1] + (move & 1);
                if ((used >> (move >> 1) & 1) == 0 && searchBehind(used, left, right, depth, move)) {
                    return true;
                }
            }
            return false;
        }

        private boolean searchBehind(int used, int left, int right, int depth, int move) {
            int i = move >> 1;
            int then = used | 1 << i;
            if (left == NOTHING) {
                return search(then, 2 * i, 2 * i + 1, depth + 1);
            }
            int laid = laidOn(i, (move & 1) == 0 ? left : right);
            if (laid == NONE) {
                return false;
            }
            return (move & 1) == 0 ? search(then, laid, right, depth + 1) : search(then, left, laid, depth + 1);
        }

        /** What is at an end when stone i has been laid there; NONE: it can't be. */
        private int laidOn(int i, int there) {
            if (layer[there] == layer[2 * i]) {
                return NONE;
            }
            if (island.fit(outside[2 * i], outside[there])) {
                return 2 * i + 1;
            }
            return island.fit(outside[2 * i + 1], outside[there]) ? 2 * i : NONE;
        }

        private static int placeOf(int used, int left, int right) {
            return used << 10 | left << 5 | right;
        }

        /** False, if this was entered before: what failed once fails again. */
        private boolean enter(int state) {
            int place = state >> 6;
            long bit = 1L << (state & 63);
            if (place < 0 || place >= table.length) {
                return true;
            }
            if ((table[place] & bit) != 0) {
                return false;
            }
            table[place] |= bit;
            return true;
        }
    }

    /** The game of two with open hands. */
    private static final class Match {
        static final int NOT_AS_TOLD = -2;
        private static final int MOST = 10;
        /** Each stone is laid once, and at most one pass stands ahead of each. */
        private static final int MOST_DEPTH = 2 * MOST + 2;

        private final Row row;
        private final Island island;
        private final long[] table;
        private final int[] hand = new int[MOST];
        private int size = 0;
        private int handOfA = 0;
        private int handOfB = 0;
        int best = NONE;

        Match(Row row, long[] table) {
            this.row = row;
            this.island = row.island;
            this.table = table;
        }

        int judge(int a, int b) {
            if (!gather(a, b)) {
                return NOT_AS_TOLD;
            }
            best = NONE;
            int all = (1 << size) - 1;
            int left = row.outer(0);
            int right = row.outer(1);
            Arrays.fill(table, 0, (1 << size) << 2, 0L);
            if (handOfA == 0 || handOfB == 0 || !canLay(handOfA, left, right)) {
                return value(all, left, right, 0, 0);
            }
            int most = NOT_AS_TOLD;
            for (int move = 0; move < 2 * size && most < 1; move++) {
                if ((handOfA >> (move >> 1) & 1) != 0) {
                    int won = valueBehind(all, left, right, move, 0, 0);
                    if (won > most) {
                        most = won;
                        best = 2 * hand[move >> 1] + (move & 1);
                    }
                }
            }
            return most;
        }

        private boolean gather(int a, int b) {
            size = 0;
            handOfA = 0;
            handOfB = 0;
            for (int s = 0; s < island.stones; s++) {
                if (row.isHeldBy(a, s) || row.isHeldBy(b, s)) {
                    if (size >= MOST) {
                        return false;
                    }
                    hand[size] = s;
                    handOfA |= row.isHeldBy(a, s) ? 1 << size : 0;
                    handOfB |= row.isHeldBy(b, s) ? 1 << size : 0;
                    size++;
                }
            }
            return true;
        }

        /** Who wins, if a (turn 0) or b (turn 1) is to lay one of the rest: as game() tells it. */
        private int value(int rest, int left, int right, int turn, int depth) {
            if ((rest & handOfA) == 0) {
                return 1;
            }
            if ((rest & handOfB) == 0) {
                return -1;
            }
            if (depth > MOST_DEPTH) {
                return 0;
            }
            int state = ((rest << 3 | left) << 3 | right) << 1 | turn;
            int place = state >> 5;
            int shift = (state & 31) << 1;
            if (place < 0 || place >= table.length) {
                return reckon(rest, left, right, turn, depth);
            }
            int known = (int) (table[place] >> shift) & 3;
            if (known == 0) {
                known = 2 + reckon(rest, left, right, turn, depth);
                table[place] |= (long) known << shift;
            }
            return known - 2;
        }

        private int reckon(int rest, int left, int right, int turn, int depth) {
            int mine = rest & (turn == 0 ? handOfA : handOfB);
            if (!canLay(mine, left, right)) {
                return canLay(rest ^ mine, left, right)
                        ? value(rest, left, right, 1 - turn, depth + 1)
                        : Integer.compare(pipsOf(rest & handOfB), pipsOf(rest & handOfA));
            }
            int goal = turn == 0 ? 1 : -1;
            int most = NOT_AS_TOLD;
            for (int move = 0; move < 2 * size && most < 1; move++) {
                if ((mine >> (move >> 1) & 1) != 0) {
                    int won = valueBehind(rest, left, right, move, turn, depth);
                    most = won == NOT_AS_TOLD ? most : Math.max(most, goal * won);
                }
            }
            return goal * most;
        }

        /** Who wins behind a move; NOT_AS_TOLD: the stone can't be laid there. */
        private int valueBehind(int rest, int left, int right, int move, int turn, int depth) {
            int i = move >> 1;
            boolean atLeft = (move & 1) == 0;
            int outer = outerOf(i, atLeft ? left : right);
            if (outer == NONE) {
                return NOT_AS_TOLD;
            }
            return value(rest & ~(1 << i), atLeft ? outer : left, atLeft ? right : outer, 1 - turn, depth + 1);
        }

        /** The pips at an end when stone i has been laid on those there; NONE: it can't be. */
        private int outerOf(int i, int there) {
            if (island.fit(island.one[hand[i]], there)) {
                return island.two[hand[i]];
            }
            return island.fit(island.two[hand[i]], there) ? island.one[hand[i]] : NONE;
        }

        private boolean canLay(int stones, int left, int right) {
            for (int i = 0; i < size; i++) {
                if ((stones >> i & 1) != 0 && (outerOf(i, left) != NONE || outerOf(i, right) != NONE)) {
                    return true;
                }
            }
            return false;
        }

        private int pipsOf(int stones) {
            int sum = 0;
            for (int i = 0; i < size; i++) {
                sum += (stones >> i & 1) != 0 ? island.together(hand[i]) : 0;
            }
            return sum;
        }
    }

    /** What is remembered of a dealing. */
    private static final class Memory {
        static final int BYTES = 400;
        private static final int MOST_LINES = BYTES;
        private static final int MOST_DEALT = 7;

        int lines = 0;
        private int told = 0;
        final int[] dealt = new int[WIDOWS];
        private int seen = 0;
        final int[] passed = new int[WIDOWS];

        void clear() {
            lines = 0;
            told = 0;
            seen = 0;
            Arrays.fill(dealt, 0);
            Arrays.fill(passed, 0);
        }

        void copyFrom(Memory other) {
            lines = other.lines;
            told = other.told;
            seen = other.seen;
            System.arraycopy(other.dealt, 0, dealt, 0, WIDOWS);
            System.arraycopy(other.passed, 0, passed, 0, WIDOWS);
        }

        boolean hasSeen(int s) {
            return (seen >> s & 1) != 0;
        }

        boolean readAll(Tokens t, Island island) {
            clear();
            while (lines < MOST_LINES && t.kind != Tokens.END) {
                if (!readLine(t, island) || !t.passes(';')) {
                    return false;
                }
                lines++;
            }
            return true;
        }

        private boolean readLine(Tokens t, Island island) {
            switch (t.key) {
                case Tokens.DEAL:
                    return readDeal(t, island);
                case Tokens.SEEN:
                    return readSeen(t, island);
                case Tokens.PASSED:
                    return readPassed(t, island);
                default:
                    return t.fail(Tokens.CANNOT_COME);
            }
        }

        private boolean readDeal(Tokens t, Island island) {
            t.step();
            int w = island.widowHere(t);
            if (w == NONE) {
                return false;
            }
            if ((told >> w & 1) != 0) {
                return t.fail(Tokens.NOT_ONCE);
            }
            t.step();
            int n = t.numberTo(MOST_DEALT);
            if (n == NONE) {
                return false;
            }
            told |= 1 << w;
            dealt[w] = n;
            t.step();
            return true;
        }

        private boolean readSeen(Tokens t, Island island) {
            t.step();
            if (!t.readTwoPips()) {
                return false;
            }
            int s = island.stoneWith(t.one, t.two);
            if (s == NONE || hasSeen(s)) {
                return t.fail(Tokens.NOT_ONCE);
            }
            seen |= 1 << s;
            t.step();
            return true;
        }

        private boolean readPassed(Tokens t, Island island) {
            t.step();
            int w = island.widowHere(t);
            if (w == NONE) {
                return false;
            }
            t.step();
            int n = t.numberTo(PIPS - 1);
            if (n == NONE) {
                return false;
            }
            if ((passed[w] >> n & 1) != 0) {
                return t.fail(Tokens.NOT_ONCE);
            }
            passed[w] |= 1 << n;
            t.step();
            return true;
        }
    }

    /** Counts the dealings that a memory leaves. */
    private static final class Dealer {
        private final Island island;
        private final Memory memory;
        private final long[] table;
        private final int[] unseen = new int[STONES];
        /** For each unseen stone, as bits, the widows who may have it. */
        private final int[] allowed = new int[STONES];
        private int size = 0;
        private final int[] step = new int[WIDOWS];
        private final int[] given = new int[WIDOWS];

        Dealer(Island island, Memory memory, long[] table) {
            this.island = island;
            this.memory = memory;
            this.table = table;
        }

        /** How many dealings there are, or how many in which this stone is this widow's. */
        long ways(int stone, int w) {
            if (!gather()) {
                return 0;
            }
            for (int j = 0; j < size; j++) {
                if (unseen[j] == stone) {
                    allowed[j] &= 1 << w;
                }
            }
            return countWays(sums());
        }

        /** False, if the widows have not as many stones together as are unseen. */
        private boolean gather() {
            size = 0;
            for (int s = 0; s < island.stones; s++) {
                if (!memory.hasSeen(s)) {
                    unseen[size] = s;
                    allowed[size] = widowsFor(s);
                    size++;
                }
            }
            return dealtTo((1 << island.widows) - 1) == size;
        }

        private int widowsFor(int s) {
            int pips = 1 << island.one[s] | 1 << island.two[s];
            int bits = 0;
            for (int w = 0; w < island.widows; w++) {
                if ((memory.passed[w] & pips) == 0) {
                    bits |= 1 << w;
                }
            }
            return bits;
        }

        private int dealtTo(int widows) {
            int sum = 0;
            for (int w = 0; w < island.widows; w++) {
                sum += (widows >> w & 1) != 0 ? memory.dealt[w] : 0;
            }
            return sum;
        }

        /** Each sum of what the widows were given so far has a number: how many there are. */
        private int sums() {
            int sums = 1;
            for (int w = 0; w < island.widows; w++) {
                step[w] = sums;
                sums *= memory.dealt[w] + 1;
            }
            return sums;
        }

        /** The stones are given by their numbers, so a sum tells which one was the last. */
        private long countWays(int sums) {
            if (sums < 1 || sums > table.length) {
                return 0;
            }
            Arrays.fill(given, 0);
            table[0] = 1;
            for (int sum = 1; sum < sums; sum++) {
                int last = giveOneMore() - 1;
                long ways = 0;
                for (int w = 0; w < island.widows && last >= 0 && last < size; w++) {
                    if (given[w] > 0 && sum >= step[w] && (allowed[last] >> w & 1) != 0) {
                        ways += table[sum - step[w]];
                    }
                }
                table[sum] = ways;
            }
            return table[sums - 1];
        }

        /** Goes on to the next sum: how many stones were given in it. */
        private int giveOneMore() {
            boolean carry = true;
            int all = 0;
            for (int w = 0; w < island.widows; w++) {
                if (carry) {
                    carry = given[w] == memory.dealt[w];
                    given[w] = carry ? 0 : given[w] + 1;
                }
                all += given[w];
            }
            return all;
        }

        /** The stones that can't be dealt at all, if not to this widow. */
        int certain(int w) {
            if (!gather() || !canDeal()) {
                return 0;
            }
            int bits = 0;
            for (int j = 0; j < size; j++) {
                int before = allowed[j];
                allowed[j] = before & ~(1 << w);
                if (!canDeal()) {
                    bits |= 1 << unseen[j];
                }
                allowed[j] = before;
            }
            return bits;
        }

        /** Whether there is a dealing: by Hall, if no widows must take more than they can. */
        private boolean canDeal() {
            for (int widows = 0; widows < 1 << island.widows; widows++) {
                int theirs = 0;
                for (int j = 0; j < size; j++) {
                    theirs += (allowed[j] & ~widows) == 0 ? 1 : 0;
                }
                if (theirs > dealtTo(widows)) {
                    return false;
                }
            }
            return true;
        }
    }

    /** Days that are drawn. */
    private static final class Days {
        static final int MOST = 200;

        private final Row row;
        private int x = 0;
        boolean any = false;
        private int laid = 0;
        int cats = 0;
        int tides = 0;
        int refused = 0;

        Days(Row row) {
            this.row = row;
        }

        int live(int n, int seed) {
            x = seed;
            any = true;
            laid = 0;
            cats = 0;
            tides = 0;
            refused = 0;
            for (int day = 0; day < n; day++) {
                tryVisit();
                tryCat();
                tryTide();
            }
            return laid;
        }

        private int draw(int n) {
            x = x * 1103515245 + 12345;
            return n > 0 ? (x >>> 8) % n : 0;
        }

        private void tryVisit() {
            int w = draw(row.island.widows);
            int held = row.owned(w, Row.HAND);
            if (held == 0) {
                return;
            }
            int s = row.heldAt(w, draw(held));
            int end = draw(2);
            if (s != NONE && row.refusal(w, s, end) == 0) {
                row.put(s, end);
                laid++;
            } else {
                refused++;
            }
        }

        private void tryCat() {
            if (draw(8) != 0) {
                return;
            }
            int end = draw(2);
            if (row.length > 0) {
                row.takeOff(end);
                cats++;
            }
        }

        private void tryTide() {
            if (draw(4) == 0 && row.length > 0) {
                row.turnLast();
                tides++;
            }
        }
    }

    /** What may be said of stones, kept so that each one comes behind those within it. */
    private static final class Sentence {
        static final int BYTES = 200;
        private static final int MOST_ONES = 20;
        private static final int MOST_WITHIN = 8;
        private static final int MOST_NUMBER = 999;
        /** Each one, and an 'and' or 'or' behind each but the first. */
        private static final int MOST_PARTS = 2 * MOST_ONES;

        /** How many it has; 0: there is no sentence. */
        int ones = 0;
        private int size = 0;
        private final int[] part = new int[MOST_PARTS];
        private final int[] sign = new int[MOST_PARTS];
        private final int[] number = new int[MOST_PARTS];
        private final int[] stack = new int[MOST_ONES];

        void clear() {
            ones = 0;
            size = 0;
        }

        void copyFrom(Sentence other) {
            ones = other.ones;
            size = other.size;
            System.arraycopy(other.part, 0, part, 0, MOST_PARTS);
            System.arraycopy(other.sign, 0, sign, 0, MOST_PARTS);
            System.arraycopy(other.number, 0, number, 0, MOST_PARTS);
        }

        boolean readAll(Tokens t, Island island) {
            clear();
            if (!readEither(t, island, 0)) {
                return false;
            }
            return t.kind == Tokens.END || t.fail(Tokens.CANNOT_COME);
        }

        private boolean readEither(Tokens t, Island island, int within) {
            if (!readBoth(t, island, within)) {
                return false;
            }
            for (int k = 0; k < MOST_ONES && t.key == Tokens.OR; k++) {
                t.step();
                if (!readBoth(t, island, within)) {
                    return false;
                }
                add(Tokens.OR, 0, 0);
            }
            return true;
        }

        private boolean readBoth(Tokens t, Island island, int within) {
            if (!readOne(t, island, within)) {
                return false;
            }
            for (int k = 0; k < MOST_ONES && t.key == Tokens.AND; k++) {
                t.step();
                if (!readOne(t, island, within)) {
                    return false;
                }
                add(Tokens.AND, 0, 0);
            }
            return true;
        }

        private boolean readOne(Tokens t, Island island, int within) {
            if (!t.isSign('(') && t.key < Tokens.NOT) {
                return t.fail(Tokens.CANNOT_COME);
            }
            if (ones >= MOST_ONES || within >= MOST_WITHIN) {
                return t.fail(Tokens.TOO_MANY);
            }
            ones++;
            int key = t.key;
            t.step();
            switch (key) {
                case Tokens.NAME:
                    return readEither(t, island, within + 1) && t.passes(')');
                case Tokens.NOT:
                    return readOne(t, island, within + 1) && add(Tokens.NOT, 0, 0);
                case Tokens.OF:
                    return readOf(t, island);
                case Tokens.TOGETHER:
                case Tokens.HIGH:
                case Tokens.LOW:
                case Tokens.PLACE:
                    return readMeasure(t, key);
                default:
                    return add(key, 0, 0);
            }
        }

        private boolean readOf(Tokens t, Island island) {
            int w = island.widowHere(t);
            if (w == NONE) {
                return false;
            }
            t.step();
            return add(Tokens.OF, 0, w);
        }

        private boolean readMeasure(Tokens t, int key) {
            if (!t.isSign('<') && !t.isSign('=') && !t.isSign('>')) {
                return t.fail(Tokens.CANNOT_COME);
            }
            int compare = t.sign;
            t.step();
            int n = t.numberTo(MOST_NUMBER);
            if (n == NONE) {
                return false;
            }
            t.step();
            return add(key, compare, n);
        }

        private boolean add(int key, int compare, int n) {
            if (size < MOST_PARTS) {
                part[size] = key;
                sign[size] = compare;
                number[size] = n;
                size++;
            }
            return true;
        }

        /** The stones of which it may be said, as bits. */
        int trueOf(Row row) {
            int top = 0;
            for (int i = 0; i < size; i++) {
                if (part[i] == Tokens.NOT && top >= 1) {
                    stack[top - 1] = ~stack[top - 1];
                } else if (part[i] == Tokens.AND && top >= 2) {
                    top--;
                    stack[top - 1] &= stack[top];
                } else if (part[i] == Tokens.OR && top >= 2) {
                    top--;
                    stack[top - 1] |= stack[top];
                } else if (top < MOST_ONES) {
                    stack[top] = trueOfPart(row, i);
                    top++;
                }
            }
            return stack[0];
        }

        private int trueOfPart(Row row, int i) {
            int bits = 0;
            for (int s = 0; s < row.island.stones; s++) {
                if (isTrue(row, s, i)) {
                    bits |= 1 << s;
                }
            }
            return bits;
        }

        private boolean isTrue(Row row, int s, int i) {
            int a = row.island.one[s];
            int b = row.island.two[s];
            switch (part[i]) {
                case Tokens.DOUBLE:
                    return a == b;
                case Tokens.LAID:
                    return row.where[s] == Row.LAID;
                case Tokens.HELD:
                    return row.where[s] == Row.HAND;
                case Tokens.OF:
                    return row.owner[s] == number[i];
                case Tokens.FITTING:
                    return row.length > 0 && (row.goesTo(s, 0) || row.goesTo(s, 1));
                case Tokens.TOGETHER:
                    return isAsTold(a + b, i);
                case Tokens.HIGH:
                    return isAsTold(Math.max(a, b), i);
                case Tokens.LOW:
                    return isAsTold(Math.min(a, b), i);
                case Tokens.PLACE:
                    return isAsTold(row.placeOf(s), i);
                default:
                    return false;
            }
        }

        private boolean isAsTold(int measure, int i) {
            if (sign[i] == '<') {
                return measure < number[i];
            }
            return sign[i] == '=' ? measure == number[i] : measure > number[i];
        }
    }
}
