import java.util.ArrayList;
import java.util.List;

/** All that an object tells without being changed by it, so that two of them can be held against each other. */
final class Look {
    private Look() {
    }

    /** Some 200 calls for a small island; the fault is left out, and the text is looked at, not made anew. */
    static List<String> at(WidowRow x) {
        List<String> seen = new ArrayList<>();
        for (int what = 0; what < 8; what++) {
            seen.add("count " + what + " " + x.count(what));
        }
        int widows = x.count(0);
        int stones = x.count(1);
        for (int s = 0; s < stones; s++) {
            for (int what = 0; what < 6; what++) {
                seen.add("stone " + s + " " + what + " " + x.stone(s, what));
            }
        }
        for (int w = 0; w < widows; w++) {
            for (int what = 0; what < 6; what++) {
                seen.add("widow " + w + " " + what + " " + x.widow(w, what));
            }
            seen.add("visits " + w + " " + x.visits(w));
            seen.add("sure " + w + " " + x.sure(w));
        }
        for (int end = 0; end < 2; end++) {
            seen.add("pips " + end + " " + x.pips(end));
            seen.add("able " + end + " " + x.able(end));
            seen.add("open " + end + " " + x.open(end));
        }
        for (int n = 0; n < 7; n++) {
            seen.add("fits " + n + " " + x.fits(n, n) + x.fits(n, (n + 3) % 7));
        }
        seen.add("dealings " + x.dealings());
        seen.add("dearest " + x.dearest());
        told(x, seen);
        return seen;
    }

    /** What searches, days, texts and the sentence told or tell. */
    private static void told(WidowRow x, List<String> seen) {
        int i = -1;
        do {
            i++;
            seen.add("longAt " + i + " " + x.longAt(i));
        } while (i < 12 && x.longAt(i) != WidowRow.NONE);
        i = -1;
        do {
            i++;
            seen.add("allAt " + i + " " + x.allAt(i));
        } while (i < 10 && x.allAt(i) != WidowRow.NONE);
        seen.add("first " + x.first());
        for (int what = 0; what < 3; what++) {
            seen.add("drawn " + what + " " + x.drawn(what));
        }
        i = -1;
        do {
            i++;
            seen.add("byteAt " + i + " " + x.byteAt(i));
        } while (i < 111 && x.byteAt(i) != WidowRow.NONE);
        for (int k = -1; k < x.said(WidowRow.NONE); k++) {
            seen.add("said " + k + " " + x.said(k));
        }
        for (int k = -1; k < x.gaps(WidowRow.NONE); k++) {
            seen.add("gaps " + k + " " + x.gaps(k));
        }
        for (int k = 0; k < x.count(5); k++) {
            seen.add("at " + k + " " + x.at(k));
        }
    }

    /** A few calls that tell one state of the row from the next one. */
    static String brief(WidowRow x) {
        StringBuilder all = new StringBuilder();
        for (int i = 0; i < x.count(5); i++) {
            all.append(x.at(i)).append(' ');
        }
        all.append("/ ").append(x.pips(0)).append(' ').append(x.pips(1)).append(" /");
        for (int w = 0; w < x.count(0); w++) {
            all.append(' ').append(x.widow(w, 1)).append(x.widow(w, 2)).append(x.widow(w, 4)).append(x.widow(w, 5));
        }
        return all.toString();
    }

    static void same(String call, List<String> got, List<String> want) {
        Due.due(call + ": as much is told", got.size(), want.size());
        for (int i = 0; i < got.size() && i < want.size(); i++) {
            Due.due(call + ": it tells '" + got.get(i) + "', due is '" + want.get(i) + "'",
                    got.get(i).equals(want.get(i)), true);
        }
    }
}
