import java.util.ArrayDeque;
import java.util.ArrayList;
import java.util.Arrays;
import java.util.HashMap;
import java.util.HashSet;
import java.util.LinkedList;
import java.util.List;
import java.util.Map;
import java.util.NoSuchElementException;
import java.util.Set;
import java.util.TreeSet;

/**
 * The document once more, written for the tests alone: with lists, sets and plain searching,
 * nothing in common with the class but the face. Texts come as they are, not by a tape.
 */
final class SlowRow {
    static final int NONE = -1;
    private static final Set<String> KEYS = new HashSet<>(Arrays.asList("widow", "stone", "forgive",
            "quarrel", "pawn", "deal", "seen", "passed", "or", "and", "not", "double", "laid", "held",
            "of", "fits", "pips", "high", "low", "place"));

    static final class Fault extends RuntimeException {
        private static final long serialVersionUID = 1L;
        final int kind;
        final int place;

        Fault(int kind, int place) {
            this.kind = kind;
            this.place = place;
        }
    }

    private static final class Token {
        final String text;
        final int place;

        Token(String text, int place) {
            this.text = text;
            this.place = place;
        }

        boolean isWord() {
            return text.matches("[a-z]{1,7}");
        }

        boolean isNumber() {
            return text.matches("[0-9]{1,3}");
        }
    }

    private static final class Text {
        final LinkedList<Token> tokens = new LinkedList<>();
        final boolean over;

        Text(String bytes, int most) {
            int i = 0;
            over = bytes.length() > most;
            while (i < bytes.length() && i < most) {
                char c = bytes.charAt(i);
                if (c == ' ' || c == '\n') {
                    i++;
                    continue;
                }
                int j = i;
                while (j < bytes.length() && String.valueOf(bytes.charAt(j)).matches("[a-z0-9]")) {
                    j++;
                }
                j = Math.max(j, i + 1);
                tokens.add(new Token(bytes.substring(i, j), i));
                i = j;
            }
            tokens.add(new Token("", over ? most : bytes.length()));
        }

        boolean ended() {
            return tokens.size() == 1 && !over;
        }

        Token peek() {
            return tokens.getFirst();
        }

        Token next() {
            return tokens.size() > 1 ? tokens.removeFirst() : tokens.getFirst();
        }

        void sign(String sign) {
            Token t = next();
            if (!t.text.equals(sign)) {
                throw new Fault(1, t.place);
            }
        }

        int number(int most) {
            Token t = next();
            if (!t.isNumber()) {
                throw new Fault(1, t.place);
            }
            int n = Integer.parseInt(t.text);
            if (n > most) {
                throw new Fault(2, t.place);
            }
            return n;
        }

        String name() {
            Token t = next();
            if (!t.isWord() || KEYS.contains(t.text)) {
                throw new Fault(1, t.place);
            }
            return t.text;
        }
    }

    private static final class Stone {
        int one;
        int two;
        int owner;
        char where = 'h';
    }

    private static final class Lying {
        int stone;
        int left;
        int right;
        int by;

        Lying(int stone, int left, int right, int by) {
            this.stone = stone;
            this.left = left;
            this.right = right;
            this.by = by;
        }
    }

    private static final class State {
        List<String> names = new ArrayList<>();
        List<Stone> stones = new ArrayList<>();
        Set<Integer> forgiven = new TreeSet<>();
        List<Set<Integer>> quarrels = new ArrayList<>();
        int worth = 5;
        List<Lying> row = new ArrayList<>();
        int[] paid = new int[6];
        int[] had = new int[6];
        int lines = 0;
        int[] dealt = new int[6];
        Set<Integer> seen = new TreeSet<>();
        Set<String> passed = new TreeSet<>();
        Node sentence = null;

        State copy() {
            State s = new State();
            s.names.addAll(names);
            for (Stone t : stones) {
                Stone u = new Stone();
                u.one = t.one;
                u.two = t.two;
                u.owner = t.owner;
                u.where = t.where;
                s.stones.add(u);
            }
            s.forgiven.addAll(forgiven);
            s.quarrels.addAll(quarrels);
            s.worth = worth;
            for (Lying l : row) {
                s.row.add(new Lying(l.stone, l.left, l.right, l.by));
            }
            s.paid = paid.clone();
            s.had = had.clone();
            s.lines = lines;
            s.dealt = dealt.clone();
            s.seen.addAll(seen);
            s.passed.addAll(passed);
            s.sentence = sentence;
            return s;
        }
    }

    private State now = new State();
    private final State[] images = new State[2];
    private final List<State> past = new ArrayList<>();
    private int fault = 0;
    private List<Integer> longPath = new ArrayList<>();
    private List<Integer> allPath = new ArrayList<>();
    private int firstMove = NONE;
    private int[] drawn = null;
    private String text = "";

    // ---- texts

    int island(String bytes) {
        State s = new State();
        int lines = 0;
        boolean worthTold = false;
        fault = 0;
        try {
            Text t = new Text(bytes, 900);
            while (!t.ended()) {
                Token key = t.next();
                if (key.text.equals("widow")) {
                    if (s.names.size() == 6) {
                        throw new Fault(4, key.place);
                    }
                    int place = t.peek().place;
                    String name = t.name();
                    if (s.names.contains(name)) {
                        throw new Fault(3, place);
                    }
                    s.names.add(name);
                } else if (key.text.equals("stone")) {
                    if (s.stones.size() == 28) {
                        throw new Fault(4, key.place);
                    }
                    Stone stone = new Stone();
                    stone.one = t.number(6);
                    int place = t.peek().place;
                    stone.two = t.number(6);
                    if (stoneOf(s, stone.one, stone.two) != NONE) {
                        throw new Fault(3, place);
                    }
                    stone.owner = widowOf(s, t);
                    s.stones.add(stone);
                } else if (key.text.equals("forgive")) {
                    int place = t.peek().place;
                    if (!s.forgiven.add(t.number(6))) {
                        throw new Fault(3, place);
                    }
                } else if (key.text.equals("quarrel")) {
                    Set<Integer> both = new TreeSet<>();
                    both.add(t.number(6));
                    int place = t.peek().place;
                    both.add(t.number(6));
                    if (s.quarrels.contains(both)) {
                        throw new Fault(3, place);
                    }
                    s.quarrels.add(both);
                } else if (key.text.equals("pawn")) {
                    if (worthTold) {
                        throw new Fault(3, key.place);
                    }
                    worthTold = true;
                    s.worth = t.number(99);
                } else {
                    throw new Fault(1, key.place);
                }
                t.sign(";");
                lines++;
            }
        } catch (Fault f) {
            fault = f.kind;
            return -1 - f.place;
        }
        now = s;
        past.clear();
        return lines;
    }

    int memory(String bytes) {
        State s = now.copy();
        s.lines = 0;
        s.dealt = new int[6];
        s.seen.clear();
        s.passed.clear();
        Set<Integer> told = new HashSet<>();
        fault = 0;
        try {
            Text t = new Text(bytes, 400);
            while (!t.ended()) {
                Token key = t.next();
                if (key.text.equals("deal")) {
                    int place = t.peek().place;
                    int w = widowOf(s, t);
                    if (!told.add(w)) {
                        throw new Fault(3, place);
                    }
                    s.dealt[w] = t.number(7);
                } else if (key.text.equals("seen")) {
                    int a = t.number(6);
                    int place = t.peek().place;
                    int b = t.number(6);
                    int stone = stoneOf(s, a, b);
                    if (stone == NONE || !s.seen.add(stone)) {
                        throw new Fault(3, place);
                    }
                } else if (key.text.equals("passed")) {
                    int w = widowOf(s, t);
                    int place = t.peek().place;
                    if (!s.passed.add(w + ":" + t.number(6))) {
                        throw new Fault(3, place);
                    }
                } else {
                    throw new Fault(1, key.place);
                }
                t.sign(";");
                s.lines++;
            }
        } catch (Fault f) {
            fault = f.kind;
            return -1 - f.place;
        }
        now = s;
        return s.lines;
    }

    private static int stoneOf(State s, int a, int b) {
        for (int i = 0; i < s.stones.size(); i++) {
            int x = s.stones.get(i).one;
            int y = s.stones.get(i).two;
            if (Math.min(x, y) == Math.min(a, b) && Math.max(x, y) == Math.max(a, b)) {
                return i;
            }
        }
        return NONE;
    }

    private static int widowOf(State s, Text t) {
        int place = t.peek().place;
        int w = s.names.indexOf(t.name());
        if (w < 0) {
            throw new Fault(3, place);
        }
        return w;
    }

    int fault() {
        return fault;
    }

    // ---- sentences

    private static final class Node {
        String kind;
        Node left;
        Node right;
        String sign;
        int number;
        int ones;
    }

    private int onesRead;

    int sentence(String bytes) {
        fault = 0;
        onesRead = 0;
        try {
            Text t = new Text(bytes, 200);
            Node n = cond(t, 1);
            if (!t.ended()) {
                throw new Fault(1, t.peek().place);
            }
            n.ones = onesRead;
            now = now.copy();
            now.sentence = n;
            return onesRead;
        } catch (Fault f) {
            fault = f.kind;
            return -1 - f.place;
        }
    }

    private Node cond(Text t, int deep) {
        Node n = conj(t, deep);
        while (t.peek().text.equals("or")) {
            t.next();
            n = pair("or", n, conj(t, deep));
        }
        return n;
    }

    private Node conj(Text t, int deep) {
        Node n = one(t, deep);
        while (t.peek().text.equals("and")) {
            t.next();
            n = pair("and", n, one(t, deep));
        }
        return n;
    }

    private static Node pair(String kind, Node a, Node b) {
        Node n = new Node();
        n.kind = kind;
        n.left = a;
        n.right = b;
        return n;
    }

    private Node one(Text t, int deep) {
        Token k = t.next();
        List<String> starts = Arrays.asList("not", "(", "double", "laid", "held", "of", "fits", "pips", "high",
                "low", "place");
        if (!starts.contains(k.text)) {
            throw new Fault(1, k.place);
        }
        onesRead++;
        if (onesRead > 20 || deep > 8) {
            throw new Fault(4, k.place);
        }
        Node n = new Node();
        n.kind = k.text;
        if (k.text.equals("not")) {
            n.left = one(t, deep + 1);
        } else if (k.text.equals("(")) {
            n.left = cond(t, deep + 1);
            t.sign(")");
        } else if (k.text.equals("of")) {
            n.number = widowOf(now, t);
        } else if (Arrays.asList("pips", "high", "low", "place").contains(k.text)) {
            Token sign = t.next();
            if (!Arrays.asList("<", "=", ">").contains(sign.text)) {
                throw new Fault(1, sign.place);
            }
            n.sign = sign.text;
            n.number = t.number(999);
        }
        return n;
    }

    private boolean holds(Node n, int s) {
        Stone t = now.stones.get(s);
        switch (n.kind) {
            case "or": return holds(n.left, s) || holds(n.right, s);
            case "and": return holds(n.left, s) && holds(n.right, s);
            case "not": return !holds(n.left, s);
            case "(": return holds(n.left, s);
            case "double": return t.one == t.two;
            case "laid": return t.where == 'l';
            case "held": return t.where == 'h';
            case "of": return t.owner == n.number;
            case "fits":
                return !now.row.isEmpty() && (fit(t.one, now.row.get(0).left) || fit(t.two, now.row.get(0).left)
                        || fit(t.one, now.row.get(now.row.size() - 1).right)
                        || fit(t.two, now.row.get(now.row.size() - 1).right));
            case "pips": return measured(t.one + t.two, n);
            case "high": return measured(t.one > t.two ? t.one : t.two, n);
            case "low": return measured(t.one > t.two ? t.two : t.one, n);
            default: return measured(stone(s, 4), n);
        }
    }

    private static boolean measured(int x, Node n) {
        return n.sign.equals("<") ? x < n.number : n.sign.equals("=") ? x == n.number : x > n.number;
    }

    int said(int k) {
        if (now.sentence == null) {
            return NONE;
        }
        List<Integer> found = new ArrayList<>();
        for (int s = 0; s < now.stones.size(); s++) {
            if (holds(now.sentence, s)) {
                found.add(s);
            }
        }
        return listed(found, k);
    }

    private static int listed(List<Integer> found, int k) {
        return k == NONE ? found.size() : k >= 0 && k < found.size() ? found.get(k) : NONE;
    }

    // ---- the row

    private boolean fit(int n, int m) {
        Set<Integer> both = new TreeSet<>(Arrays.asList(n, m));
        return !now.quarrels.contains(both) && (n == m || now.forgiven.contains(n) || now.forgiven.contains(m));
    }

    int stone(int s, int what) {
        if (s < 0 || s >= now.stones.size() || what < 0 || what > 5) {
            throw new NoSuchElementException();
        }
        Stone t = now.stones.get(s);
        int place = 0;
        int by = NONE;
        for (int i = 0; i < now.row.size(); i++) {
            if (now.row.get(i).stone == s) {
                place = i + 1;
                by = now.row.get(i).by;
            }
        }
        return new int[] {t.one, t.two, t.owner, "hpl".indexOf(t.where), place, by}[what];
    }

    int find(int a, int b) {
        return stoneOf(now, a, b);
    }

    private boolean noWidow(int w) {
        return w < 0 || w >= now.names.size();
    }

    int widow(int w, int what) {
        if (noWidow(w) || what < 0 || what > 5) {
            return NONE;
        }
        int all = 0;
        int hand = 0;
        int pawn = 0;
        int pips = 0;
        for (Stone t : now.stones) {
            if (t.owner == w) {
                all++;
                hand += t.where == 'h' ? 1 : 0;
                pawn += t.where == 'p' ? 1 : 0;
                pips += t.where == 'h' ? t.one + t.two : 0;
            }
        }
        return new int[] {all, hand, pawn, pips, now.paid[w], now.had[w]}[what];
    }

    int fits(int n, int m) {
        return n < 0 || n > 6 || m < 0 || m > 6 ? NONE : fit(n, m) ? 1 : 0;
    }

    int at(int i) {
        return i < 0 || i >= now.row.size() ? NONE : now.row.get(i).stone;
    }

    int pips(int end) {
        if (now.row.isEmpty() || end < 0 || end > 1) {
            return NONE;
        }
        return end == 0 ? now.row.get(0).left : now.row.get(now.row.size() - 1).right;
    }

    private boolean noEnd(int end) {
        return end != 0 && end != 1;
    }

    int why(int w, int s, int end) {
        if (noWidow(w) || s < 0 || s >= now.stones.size() || noEnd(end)) {
            return NONE;
        }
        Stone t = now.stones.get(s);
        if (t.owner != w || t.where != 'h') {
            return 1;
        }
        if (now.row.isEmpty()) {
            return 0;
        }
        Lying there = end == 0 ? now.row.get(0) : now.row.get(now.row.size() - 1);
        if (there.by == w) {
            return 2;
        }
        return fit(t.one, pips(end)) || fit(t.two, pips(end)) ? 0 : 3;
    }

    int lay(int w, int s, int end) {
        int no = why(w, s, end);
        if (no == 0) {
            keep();
            put(w, s, end);
        }
        return no;
    }

    private void put(int w, int s, int end) {
        Stone t = now.stones.get(s);
        Lying l = new Lying(s, t.one, t.two, w);
        if (now.row.isEmpty()) {
            now.row.add(l);
        } else {
            boolean first = fit(t.one, pips(end));
            int inner = first ? t.one : t.two;
            int outer = first ? t.two : t.one;
            now.paid[w]++;
            if (end == 0) {
                now.had[now.row.get(0).by]++;
                now.row.add(0, new Lying(s, outer, inner, w));
            } else {
                now.had[now.row.get(now.row.size() - 1).by]++;
                now.row.add(new Lying(s, inner, outer, w));
            }
        }
        t.where = 'l';
    }

    private void keep() {
        past.add(now.copy());
        if (past.size() > 8) {
            past.remove(0);
        }
    }

    int cat(int end) {
        if (now.row.isEmpty() || noEnd(end)) {
            return NONE;
        }
        keep();
        return remove(end);
    }

    private int remove(int end) {
        Lying l = now.row.remove(end == 0 ? 0 : now.row.size() - 1);
        now.stones.get(l.stone).where = 'h';
        return l.stone;
    }

    int tide() {
        if (now.row.isEmpty()) {
            return NONE;
        }
        keep();
        turn();
        return pips(1);
    }

    private void turn() {
        Lying l = now.row.get(now.row.size() - 1);
        int x = l.left;
        l.left = l.right;
        l.right = x;
    }

    int pawn(int s) {
        if (s < 0 || s >= now.stones.size() || now.stones.get(s).where != 'h') {
            return NONE;
        }
        keep();
        now.stones.get(s).where = 'p';
        return (now.stones.get(s).one + now.stones.get(s).two) * now.worth;
    }

    boolean redeem(int s) {
        if (s < 0 || s >= now.stones.size() || now.stones.get(s).where != 'p') {
            return false;
        }
        keep();
        now.stones.get(s).where = 'h';
        return true;
    }

    int will(int w, int heir) {
        if (noWidow(w) || noWidow(heir) || w == heir) {
            return NONE;
        }
        keep();
        int moved = 0;
        for (Stone t : now.stones) {
            if (t.owner == w && t.where != 'l') {
                t.owner = heir;
                moved++;
            }
        }
        return moved;
    }

    int undo() {
        if (past.isEmpty()) {
            return NONE;
        }
        State before = past.remove(past.size() - 1);
        before.lines = now.lines;
        before.dealt = now.dealt;
        before.seen = now.seen;
        before.passed = now.passed;
        before.sentence = now.sentence;
        now = before;
        return past.size();
    }

    int visits(int w) {
        if (noWidow(w)) {
            return NONE;
        }
        int bits = 0;
        for (int s = 0; s < now.stones.size(); s++) {
            for (int end = 0; end < 2; end++) {
                if (!now.row.isEmpty() && why(w, s, end) == 0) {
                    bits |= 1 << now.row.get(end == 0 ? 0 : now.row.size() - 1).by;
                }
            }
        }
        return bits;
    }

    int able(int end) {
        int bits = 0;
        for (int w = 0; w < now.names.size(); w++) {
            for (int s = 0; s < now.stones.size(); s++) {
                bits |= why(w, s, end) == 0 ? 1 << w : 0;
            }
        }
        return noEnd(end) ? NONE : bits;
    }

    int open(int end) {
        int bits = 0;
        for (int s = 0; s < now.stones.size() && !noEnd(end); s++) {
            int no = why(now.stones.get(s).owner, s, end);
            if (no == 0 || no == 2 && (fit(now.stones.get(s).one, pips(end)) || fit(now.stones.get(s).two, pips(end)))) {
                bits |= 1 << s;
            }
        }
        return noEnd(end) ? NONE : bits;
    }

    private List<Integer> gapList() {
        List<Integer> found = new ArrayList<>();
        for (int i = 1; i < now.row.size(); i++) {
            if (!fit(now.row.get(i - 1).right, now.row.get(i).left)) {
                found.add(i);
            }
        }
        return found;
    }

    int gaps(int k) {
        return listed(gapList(), k);
    }

    int stretch() {
        List<Integer> cuts = gapList();
        cuts.add(now.row.size());
        int from = 0;
        int most = 0;
        for (int cut : cuts) {
            most = Math.max(most, cut - from);
            from = cut;
        }
        return most;
    }

    int dearest() {
        int best = NONE;
        for (int w = now.names.size() - 1; w >= 0; w--) {
            if (best == NONE || now.paid[w] - now.had[w] >= now.paid[best] - now.had[best]) {
                best = w;
            }
        }
        return best;
    }

    int counts(int n, int what) {
        if (n < 0 || n > 6 || what < 0 || what > 2) {
            return NONE;
        }
        int often = 0;
        for (Stone t : now.stones) {
            if (t.where == "hpl".charAt(what)) {
                often += t.one == n ? 1 : 0;
                often += t.two == n ? 1 : 0;
            }
        }
        return often;
    }

    int greedy() {
        State before = now;
        now = now.copy();
        int laid = 0;
        boolean more = true;
        while (more) {
            more = false;
            for (int key = 0; key < 2 * now.stones.size() && !more; key++) {
                int w = now.stones.get(key / 2).owner;
                if (why(w, key / 2, key % 2) == 0) {
                    put(w, key / 2, key % 2);
                    laid++;
                    more = true;
                }
            }
        }
        now = before;
        return laid;
    }

    int write() {
        List<String> parts = new ArrayList<>();
        for (Lying l : now.row) {
            parts.add(String.valueOf(l.left));
            parts.add(String.valueOf(l.right));
        }
        text = String.join(" ", parts);
        return text.length();
    }

    int byteAt(int i) {
        return i < 0 || i >= text.length() ? NONE : text.charAt(i);
    }

    // ---- searches

    private List<Integer> held() {
        List<Integer> found = new ArrayList<>();
        for (int s = 0; s < now.stones.size(); s++) {
            if (now.stones.get(s).where == 'h') {
                found.add(s);
            }
        }
        return found;
    }

    int longest() {
        if (held().size() > 12) {
            return NONE;
        }
        longPath = bestChain(new TreeSet<>(held()), now.row.isEmpty() ? NONE : pips(1), new HashMap<>());
        return longPath.size();
    }

    private List<Integer> bestChain(TreeSet<Integer> rest, int pips, Map<String, List<Integer>> known) {
        String key = rest + "/" + pips;
        if (known.containsKey(key)) {
            return known.get(key);
        }
        List<Integer> best = new ArrayList<>();
        for (int s : rest) {
            for (int turned = 0; turned < 2; turned++) {
                int inner = turned == 0 ? now.stones.get(s).one : now.stones.get(s).two;
                int outer = turned == 0 ? now.stones.get(s).two : now.stones.get(s).one;
                if (pips == NONE || fit(inner, pips)) {
                    TreeSet<Integer> less = new TreeSet<>(rest);
                    less.remove(s);
                    List<Integer> way = new ArrayList<>();
                    way.add(2 * s + turned);
                    way.addAll(bestChain(less, outer, known));
                    if (way.size() > best.size()) {
                        best = way;
                    }
                }
            }
        }
        known.put(key, best);
        return best;
    }

    int longAt(int i) {
        return i < 0 || i >= longPath.size() ? NONE : longPath.get(i);
    }

    int leads(int n, int m) {
        if (n < 0 || n > 6 || m < 0 || m > 6 || held().size() > 12) {
            return NONE;
        }
        Set<String> known = new HashSet<>();
        ArrayDeque<int[]> queue = new ArrayDeque<>();
        queue.add(new int[] {0, n});
        while (!queue.isEmpty()) {
            int[] here = queue.poll();
            if (fit(here[1], m)) {
                return Integer.bitCount(here[0]);
            }
            for (int s : held()) {
                for (int turned = 0; turned < 2; turned++) {
                    int inner = turned == 0 ? now.stones.get(s).one : now.stones.get(s).two;
                    int outer = turned == 0 ? now.stones.get(s).two : now.stones.get(s).one;
                    int then = here[0] | 1 << s;
                    if (then != here[0] && fit(inner, here[1]) && known.add(then + "/" + outer)) {
                        queue.add(new int[] {then, outer});
                    }
                }
            }
        }
        return NONE;
    }

    int all() {
        if (held().size() > 10) {
            return NONE;
        }
        Set<Integer> wanted = new TreeSet<>();
        for (int s : held()) {
            wanted.add(now.stones.get(s).owner);
        }
        State before = now;
        Set<String> known = new HashSet<>();
        ArrayDeque<State> states = new ArrayDeque<>();
        ArrayDeque<List<Integer>> ways = new ArrayDeque<>();
        states.add(now.copy());
        ways.add(new ArrayList<>());
        int found = NONE;
        while (!states.isEmpty() && found == NONE) {
            now = states.poll();
            List<Integer> way = ways.poll();
            Set<Integer> still = new TreeSet<>(wanted);
            for (int key : way) {
                still.remove(now.stones.get(key / 2).owner);
            }
            if (still.isEmpty()) {
                allPath = way;
                found = way.size();
            }
            for (int key = 0; key < 2 * now.stones.size() && found == NONE; key++) {
                int w = now.stones.get(key / 2).owner;
                if (why(w, key / 2, key % 2) == 0) {
                    State here = now;
                    now = here.copy();
                    put(w, key / 2, key % 2);
                    Lying l = now.row.get(0);
                    Lying r = now.row.get(now.row.size() - 1);
                    if (known.add(held() + "/" + l.left + "," + l.by + "/" + r.right + "," + r.by)) {
                        states.add(now);
                        List<Integer> longer = new ArrayList<>(way);
                        longer.add(key);
                        ways.add(longer);
                    }
                    now = here;
                }
            }
        }
        now = before;
        return found;
    }

    int allAt(int i) {
        return i < 0 || i >= allPath.size() ? NONE : allPath.get(i);
    }

    int game(int a, int b) {
        if (noWidow(a) || noWidow(b) || a == b || now.row.isEmpty()
                || widow(a, 1) + widow(b, 1) > 10) {
            return -2;
        }
        TreeSet<Integer> rest = new TreeSet<>();
        for (int s : held()) {
            if (now.stones.get(s).owner == a || now.stones.get(s).owner == b) {
                rest.add(s);
            }
        }
        int[] move = {NONE};
        int won = play(rest, pips(0), pips(1), a, b, move, new HashMap<>());
        firstMove = move[0];
        return won;
    }

    /** Who wins for the one to move: 1 the mover, -1 the other one. */
    private int play(TreeSet<Integer> rest, int left, int right, int mover, int other, int[] move,
            Map<String, Integer> known) {
        List<Integer> mine = new ArrayList<>();
        List<Integer> hers = new ArrayList<>();
        for (int s : rest) {
            (now.stones.get(s).owner == mover ? mine : hers).add(s);
        }
        if (mine.isEmpty()) {
            return 1;
        }
        if (hers.isEmpty()) {
            return -1;
        }
        String key = rest + "/" + left + "/" + right + "/" + mover;
        if (move == null && known.containsKey(key)) {
            return known.get(key);
        }
        int best = -5;
        for (int s : mine) {
            for (int end = 0; end < 2; end++) {
                int there = end == 0 ? left : right;
                Stone t = now.stones.get(s);
                if (fit(t.one, there) || fit(t.two, there)) {
                    int outer = fit(t.one, there) ? t.two : t.one;
                    TreeSet<Integer> less = new TreeSet<>(rest);
                    less.remove(s);
                    int won = mine.size() == 1 ? 1
                            : -play(less, end == 0 ? outer : left, end == 0 ? right : outer, other, mover, null, known);
                    if (won > best) {
                        best = won;
                        if (move != null) {
                            move[0] = 2 * s + end;
                        }
                    }
                }
            }
        }
        if (best == -5) {
            boolean otherCan = false;
            for (int s : hers) {
                Stone t = now.stones.get(s);
                otherCan |= fit(t.one, left) || fit(t.two, left) || fit(t.one, right) || fit(t.two, right);
            }
            best = otherCan ? -play(rest, left, right, other, mover, null, known)
                    : Integer.signum(sum(hers) - sum(mine));
        }
        known.put(key, best);
        return best;
    }

    private int sum(List<Integer> stones) {
        int sum = 0;
        for (int s : stones) {
            sum += now.stones.get(s).one + now.stones.get(s).two;
        }
        return sum;
    }

    int first() {
        return firstMove;
    }

    // ---- the memory

    private long ways(int stone, int widow) {
        List<Integer> unseen = new ArrayList<>();
        for (int s = 0; s < now.stones.size(); s++) {
            if (!now.seen.contains(s)) {
                unseen.add(s);
            }
        }
        return deal(unseen, 0, now.dealt.clone(), stone, widow, new HashMap<>());
    }

    private long deal(List<Integer> unseen, int i, int[] left, int stone, int widow, Map<String, Long> known) {
        if (i == unseen.size()) {
            return Arrays.stream(left).sum() == 0 ? 1 : 0;
        }
        String key = i + Arrays.toString(left);
        if (known.containsKey(key)) {
            return known.get(key);
        }
        int s = unseen.get(i);
        long sum = 0;
        for (int w = 0; w < now.names.size(); w++) {
            boolean no = now.passed.contains(w + ":" + now.stones.get(s).one)
                    || now.passed.contains(w + ":" + now.stones.get(s).two) || s == stone && w != widow;
            if (!no && left[w] > 0) {
                left[w]--;
                sum += deal(unseen, i + 1, left, stone, widow, known);
                left[w]++;
            }
        }
        known.put(key, sum);
        return sum;
    }

    long dealings() {
        return ways(NONE, NONE);
    }

    long whose(int s, int w) {
        if (noWidow(w) || s < 0 || s >= now.stones.size()) {
            return NONE;
        }
        return now.seen.contains(s) ? 0 : ways(s, w);
    }

    int sure(int w) {
        if (noWidow(w)) {
            return NONE;
        }
        long all = dealings();
        int bits = 0;
        for (int s = 0; s < now.stones.size() && all > 0; s++) {
            bits |= whose(s, w) == all ? 1 << s : 0;
        }
        return bits;
    }

    // ---- days, images

    private int x;

    private int draw(int n) {
        x = (int) (x * 1103515245L + 12345L);
        return (int) (((x & 0xffffffffL) >> 8) % n);
    }

    int days(int n, int seed) {
        if (n < 1 || n > 200 || now.names.isEmpty()) {
            return NONE;
        }
        keep();
        x = seed;
        int laid = 0;
        drawn = new int[3];
        for (int day = 0; day < n; day++) {
            int w = draw(now.names.size());
            List<Integer> hand = new ArrayList<>();
            for (int s : held()) {
                if (now.stones.get(s).owner == w) {
                    hand.add(s);
                }
            }
            if (!hand.isEmpty()) {
                int s = hand.get(draw(hand.size()));
                int end = draw(2);
                if (why(w, s, end) == 0) {
                    put(w, s, end);
                    laid++;
                } else {
                    drawn[2]++;
                }
            }
            if (draw(8) == 0) {
                int end = draw(2);
                if (!now.row.isEmpty()) {
                    remove(end);
                    drawn[0]++;
                }
            }
            if (draw(4) == 0 && !now.row.isEmpty()) {
                turn();
                drawn[1]++;
            }
        }
        return laid;
    }

    int drawn(int what) {
        return drawn == null || what < 0 || what > 2 ? NONE : drawn[what];
    }

    boolean image(int k) {
        if (k < 0 || k > 1) {
            return false;
        }
        images[k] = now.copy();
        return true;
    }

    boolean restore(int k) {
        if (k < 0 || k > 1 || images[k] == null) {
            return false;
        }
        now = images[k].copy();
        past.clear();
        return true;
    }

    int count(int what) {
        int bits = 0;
        for (int n : now.forgiven) {
            bits |= 1 << n;
        }
        int[] counts = {now.names.size(), now.stones.size(), bits, now.quarrels.size(), now.worth, now.row.size(),
            now.lines};
        return what < 0 || what >= counts.length ? NONE : counts[what];
    }
}
