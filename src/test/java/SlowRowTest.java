import java.util.ArrayList;
import java.util.Collections;
import java.util.List;
import java.util.Random;

/** Drawn runs of calls, each answer held against SlowRow's. The draws are the same each time. */
public final class SlowRowTest {
    private static final String[] NAMES = {"a", "b", "cc", "dora", "e", "zzzzzzz"};
    private static final String[] WORDS = {"widow", "stone", "forgive", "quarrel", "pawn", "deal", "seen",
        "passed", "or", "and", "not", "double", "laid", "held", "of", "fits", "pips", "high", "low", "place",
        "a", "b", "cc", "dora", "e", "zzzzzzz", "other", "toolongs", "a1", "0", "3", "6", "7", "8", "05", "99",
        "100", "999", "1000", ";", "<", "=", ">", "(", ")", ".", "A", ",", "\t", "\n", "  ", "\u00e9"};

    private final Random draws;
    private WidowRow x = new WidowRow();
    private SlowRow y = new SlowRow();
    private int calls = 0;
    private int widows = 0;
    private int stones = 0;
    private final String run;

    private SlowRowTest(int seed) {
        draws = new Random(seed);
        run = "run " + seed + ": ";
    }

    public static void main(String[] args) {
        int runs = args.length > 0 ? Integer.parseInt(args[0]) : 240;
        for (int seed = 0; seed < runs; seed++) {
            new SlowRowTest(seed).play();
        }
        Due.finish("SlowRowTest");
    }

    private int below(int n) {
        return draws.nextInt(n);
    }

    private boolean oneIn(int n) {
        return below(n) == 0;
    }

    /** No object is asked more often than the 512 times that the document promises. */
    private void play() {
        for (int part = 0; part < 2; part++) {
            begin();
            for (int k = 0; k < 3; k++) {
                newIsland();
                for (int i = 0; i < 60; i++) {
                    call();
                }
            }
        }
        for (int k = 0; k < 4; k++) {
            begin();
            newIsland();
            allSearches();
        }
    }

    private void begin() {
        x = new WidowRow();
        y = new SlowRow();
    }

    /** Asks for all that has to be searched, whenever a few stones more are laid. */
    private void allSearches() {
        for (int k = 0; k < 4; k++) {
            for (int w = 0; w < widows; w++) {
                int v = (w + 1 + below(widows)) % widows;
                due("game", x.game(w, v), y.game(w, v));
                due("first", x.first(), y.first());
            }
            due("longest", x.longest(), y.longest());
            due("all", x.all(), y.all());
            for (int i = 0; i < 12; i++) {
                due("longAt", x.longAt(i), y.longAt(i));
                due("allAt", x.allAt(i), y.allAt(i));
            }
            due("leads", x.leads(k, 6 - k), y.leads(k, 6 - k));
            layWell();
            layWell();
        }
    }

    private void newIsland() {
        readIsland(islandText());
    }

    private void readIsland(String text) {
        int lines = y.island(text);
        Due.due(run + "island: " + text, Due.island(x, text), lines);
        Due.due(run + "fault: " + text, x.fault(), y.fault());
        widows = y.count(0);
        stones = y.count(1);
    }

    private String islandText() {
        int w = oneIn(10) ? below(7) : 2 + below(3);
        int s = oneIn(6) ? below(29) : 3 + below(9);
        List<String> pairs = new ArrayList<>();
        for (int a = 0; a < 7; a++) {
            for (int b = a; b < 7; b++) {
                pairs.add(draws.nextBoolean() ? a + " " + b : b + " " + a);
            }
        }
        List<String> lines = new ArrayList<>();
        Collections.shuffle(pairs, draws);
        for (int i = 0; i < s && w > 0; i++) {
            lines.add("stone " + pairs.get(i) + " " + NAMES[below(w)]);
        }
        List<Integer> pips = new ArrayList<>(List.of(0, 1, 2, 3, 4, 5, 6));
        Collections.shuffle(pips, draws);
        int forgiven = oneIn(8) ? below(8) : below(3);
        for (int i = 0; i < forgiven; i++) {
            lines.add("forgive " + pips.get(i));
        }
        Collections.shuffle(pairs, draws);
        int quarrels = below(5);
        for (int i = 0; i < quarrels; i++) {
            lines.add("quarrel " + pairs.get(i));
        }
        if (draws.nextBoolean()) {
            lines.add("pawn " + below(100));
        }
        Collections.shuffle(lines, draws);
        for (int i = 0; i < w; i++) {
            lines.add(i, "widow " + NAMES[i]);
        }
        StringBuilder all = new StringBuilder();
        for (String line : lines) {
            all.append(line).append(oneIn(9) ? " ; " : oneIn(9) ? ";\n" : ";");
        }
        return all.toString();
    }

    private String memoryText() {
        StringBuilder all = new StringBuilder();
        List<Integer> unseen = new ArrayList<>();
        for (int s = 0; s < stones; s++) {
            if (oneIn(4) || stones > 14 && oneIn(2)) {
                all.append("seen ").append(y.stone(s, 0)).append(" ").append(y.stone(s, 1)).append(";");
            } else {
                unseen.add(s);
            }
        }
        int rest = unseen.size();
        for (int w = 0; w < widows; w++) {
            int n = w == widows - 1 ? Math.min(rest, 7) : Math.min(7, (rest + widows - w - 1) / (widows - w));
            n = oneIn(12) ? below(8) : n;
            rest = Math.max(0, rest - n);
            all.append("deal ").append(NAMES[w]).append(" ").append(n).append(";");
            if (oneIn(2)) {
                all.append("passed ").append(NAMES[w]).append(" ").append(below(7)).append(";");
            }
        }
        return all.toString();
    }

    private String sentenceText(int deep) {
        StringBuilder all = new StringBuilder(oneText(deep));
        for (int i = 0; i < 3 && oneIn(2); i++) {
            all.append(draws.nextBoolean() ? " or " : " and ").append(oneText(deep));
        }
        return all.toString();
    }

    private String oneText(int deep) {
        int kind = below(deep > 3 ? 8 : 11);
        switch (kind) {
            case 0: return "double";
            case 1: return "laid";
            case 2: return "held";
            case 3: return widows == 0 ? "fits" : "of " + NAMES[below(widows)];
            case 4: return "fits";
            case 5: return "pips" + "<=>".charAt(below(3)) + below(13);
            case 6: return (draws.nextBoolean() ? "high " : "low ") + "<=>".charAt(below(3)) + " " + below(7);
            case 7: return "place " + "<=>".charAt(below(3)) + below(6);
            case 8: return "not " + oneText(deep + 1);
            default: return "(" + sentenceText(deep + 1) + ")";
        }
    }

    /** A text with something put in, left out or put for something else. */
    private String spoiled(String text) {
        String t = text;
        for (int k = 0; k < 3 && (k == 0 || oneIn(3)); k++) {
            int from = below(t.length() + 1);
            int to = Math.min(t.length(), from + below(4));
            String word = oneIn(4) ? "" : WORDS[below(WORDS.length)];
            t = t.substring(0, from) + (oneIn(2) ? " " : "") + word + (oneIn(2) ? " " : "") + t.substring(to);
        }
        if (oneIn(6)) {
            t = t.substring(0, below(t.length() + 1));
        }
        if (oneIn(8)) {
            StringBuilder wide = new StringBuilder(t);
            int size = 150 + below(790);
            while (wide.length() < size) {
                wide.insert(wide.indexOf(" ") + 1, " ");
            }
            t = wide.toString();
        }
        return t.length() > 940 ? t.substring(0, 940) : t;
    }

    private int aWidow() {
        return oneIn(12) ? below(9) - 1 : widows == 0 ? 0 : below(widows);
    }

    private int aStone() {
        return oneIn(15) ? below(31) - 1 : stones == 0 ? 0 : below(stones);
    }

    private int anEnd() {
        return oneIn(15) ? below(5) - 1 : below(2);
    }

    private int aPips() {
        return oneIn(15) ? below(10) - 1 : below(7);
    }

    private int anIndex() {
        return below(10) - 1;
    }

    private void due(String call, long got, long want) {
        calls++;
        Due.due(run + calls + ". " + call, got, want);
    }

    private void call() {
        switch (below(5)) {
            case 0: change(); break;
            case 1: layWell(); break;
            case 2: look(); break;
            case 3: lookOn(); break;
            default: search(); break;
        }
    }

    /** Lays a stone that can be laid, if there is one at that end. */
    private void layWell() {
        int end = below(2);
        int from = stones == 0 ? 0 : below(stones);
        for (int i = 0; i < stones; i++) {
            int s = (from + i) % stones;
            int w = y.stone(s, 2);
            if (y.why(w, s, end) == 0) {
                due("lay", x.lay(w, s, end), y.lay(w, s, end));
                return;
            }
        }
    }

    private void change() {
        int w = aWidow();
        int s = aStone();
        int end = anEnd();
        int v = aWidow();
        switch (below(14)) {
            case 0: case 1: due("lay", x.lay(w, s, end), y.lay(w, s, end)); break;
            case 2: due("cat", x.cat(end), y.cat(end)); break;
            case 3: due("tide", x.tide(), y.tide()); break;
            case 4: due("pawn", x.pawn(s), y.pawn(s)); break;
            case 5: due("redeem", x.redeem(s) ? 1 : 0, y.redeem(s) ? 1 : 0); break;
            case 6: due("will", x.will(w, v), y.will(w, v)); break;
            case 7: case 8: due("undo", x.undo(), y.undo()); break;
            case 9: days(); break;
            case 10: due("image", x.image(end) ? 1 : 0, y.image(end) ? 1 : 0); break;
            case 11: restore(oneIn(3) ? end : -1); break;
            case 12: readMemory(); break;
            default: readSentence(); break;
        }
    }

    private void restore(int k) {
        due("restore", x.restore(k) ? 1 : 0, y.restore(k) ? 1 : 0);
        widows = y.count(0);
        stones = y.count(1);
    }

    private void days() {
        int n = oneIn(8) ? below(220) - 5 : below(12);
        int seed = draws.nextInt();
        due("days", x.days(n, seed), y.days(n, seed));
    }

    private void readMemory() {
        String text = oneIn(3) ? spoiled(memoryText()) : memoryText();
        text = text.length() > 940 ? text.substring(0, 940) : text;
        due("memory " + text, Due.memory(x, text), y.memory(text));
        due("fault", x.fault(), y.fault());
    }

    private void readSentence() {
        String text = oneIn(3) ? spoiled(sentenceText(0)) : sentenceText(0);
        text = text.length() > 940 ? text.substring(0, 940) : text;
        due("sentence " + text, Due.sentence(x, text), y.sentence(text));
        due("fault", x.fault(), y.fault());
        if (oneIn(4)) {
            readIslandSpoiled();
        }
    }

    private void readIslandSpoiled() {
        readIsland(spoiled(islandText()));
    }

    private void look() {
        int w = aWidow();
        int s = aStone();
        int end = anEnd();
        int what = below(8) - 1;
        int n = aPips();
        int m = aPips();
        switch (below(14)) {
            case 0:
                due("stone", Due.orRefused(() -> x.stone(s, what)), Due.orRefused(() -> y.stone(s, what)));
                break;
            case 1: due("find", x.find(n, m), y.find(n, m)); break;
            case 2: due("widow", x.widow(w, what), y.widow(w, what)); break;
            case 3: due("fits", x.fits(n, m), y.fits(n, m)); break;
            case 4: due("at", x.at(n), y.at(n)); break;
            case 5: due("pips", x.pips(end), y.pips(end)); break;
            case 6: case 7: due("why", x.why(w, s, end), y.why(w, s, end)); break;
            case 8: due("visits", x.visits(w), y.visits(w)); break;
            case 9: due("able", x.able(end), y.able(end)); break;
            case 10: due("open", x.open(end), y.open(end)); break;
            case 11: due("counts", x.counts(n, what), y.counts(n, what)); break;
            case 12: due("dearest", x.dearest(), y.dearest()); break;
            default: due("fault", x.fault(), y.fault()); break;
        }
    }

    private void lookOn() {
        int i = anIndex();
        switch (below(9)) {
            case 0: due("drawn", x.drawn(i), y.drawn(i)); break;
            case 1: due("write", x.write(), y.write()); break;
            case 2: due("byteAt", x.byteAt(2 * i), y.byteAt(2 * i)); break;
            case 3: due("gaps", x.gaps(i), y.gaps(i)); break;
            case 4: due("said", x.said(i), y.said(i)); break;
            case 5: due("said how many", x.said(-1), y.said(-1)); break;
            case 6: due("count", x.count(i == 7 ? 8 : i), y.count(i == 7 ? 8 : i)); break;
            case 7: due("greedy", x.greedy(), y.greedy()); break;
            default: due("stretch", x.stretch(), y.stretch()); break;
        }
    }

    private void search() {
        int w = aWidow();
        int v = aWidow();
        int s = aStone();
        int n = aPips();
        int m = aPips();
        int i = anIndex();
        switch (below(oneIn(4) ? 12 : 8)) {
            case 0: due("longAt", x.longAt(i), y.longAt(i)); break;
            case 1: due("allAt", x.allAt(i), y.allAt(i)); break;
            case 2: due("first", x.first(), y.first()); break;
            case 3: due("leads", x.leads(n, m), y.leads(n, m)); break;
            case 4: due("dealings", x.dealings(), y.dealings()); break;
            case 5: due("whose", x.whose(s, w), y.whose(s, w)); break;
            case 6: due("sure", x.sure(w), y.sure(w)); break;
            case 7: case 8: due("longest", x.longest(), y.longest()); break;
            case 9: due("all", x.all(), y.all()); break;
            default:
                due("game", x.game(w, v), y.game(w, v));
                due("first", x.first(), y.first());
                break;
        }
    }
}
