/** The edges of the tape, the row and the hands: promises 1 to 21, 28, 29, 31 to 33, 40 to 42 and 45 to 47. */
public final class RowEdgesTest {
    private static final int NONE = WidowRow.NONE;
    private static final int MIN = Integer.MIN_VALUE;
    private static final int MAX = Integer.MAX_VALUE;
    private static final String ISLE = "widow a;widow b;widow c;stone 6 5 a;stone 5 3 b;stone 3 3 c;stone 3 0 a;"
            + "stone 0 1 b;stone 1 6 c;forgive 0;quarrel 6 1;pawn 4;";

    private RowEdgesTest() {
    }

    public static void main(String[] args) {
        aNewObjectIsEmpty();
        feedPutsTheHighestByteFirst();
        feedTo940();
        endCuts();
        islandBeginsAnew();
        stones();
        find();
        widows();
        widowsOfAnEmptyHand();
        fitsOfAllPips();
        at();
        pips();
        whyOfNoSuchOnes();
        notInHerHand();
        theStoneAtThatEndIsHerOwn();
        neitherFits();
        theLeastReason();
        theFirstStoneOfAll();
        firstPipsToTheRow();
        visitsPaidAndHad();
        fullRow();
        cats();
        catGoesBackToHer();
        tides();
        pawns();
        redeems();
        wills();
        undoesOneOfEach();
        undoesEight();
        undoesNothing();
        canVisit();
        able();
        open();
        stretch();
        dearest();
        counts();
        greedy();
        writes();
        gaps();
        images();
        imagesNeverMade();
        countsOfTheIsland();
        the512thCall();
        Due.finish("RowEdgesTest");
    }

    private static void due(String call, long got, long want) {
        Due.due(call, got, want);
    }

    private static void due(String call, boolean got, boolean want) {
        Due.due(call, got, want);
    }

    /** Numbers that are none of 0 to size - 1. */
    private static int[] outside(int size) {
        return new int[] {MIN, MIN + 1, -256, -2, -1, size, size + 1, size + 256, MAX};
    }

    // 1: An empty ISLAND; an empty tape
    private static void aNewObjectIsEmpty() {
        WidowRow x = new WidowRow();
        int[] counts = {0, 0, 0, 0, 5, 0, 0, 0};
        for (int what = 0; what < 8; what++) {
            due("new: count " + what, x.count(what), counts[what]);
        }
        due("new: fault, longest, all, stretch, greedy, write",
                x.fault() + x.longest() + x.all() + x.stretch() + x.greedy() + x.write(), 0);
        due("new: end 0", x.end(0), true);
        due("new: end 1", x.end(1), false);
        due("new: stone", Due.stone(x, 0, 0), Due.REFUSED);
        int[] none = {x.find(0, 0), x.widow(0, 0), x.at(0), x.pips(0), x.pips(1), x.why(0, 0, 0), x.lay(0, 0, 1),
            x.cat(0), x.cat(1), x.tide(), x.pawn(0), x.will(0, 1), x.undo(), x.visits(0), x.longAt(0), x.allAt(0),
            x.first(), x.dearest(), (int) x.whose(0, 0), x.sure(0), x.days(1, 1), x.drawn(0), x.drawn(1), x.drawn(2),
            x.byteAt(0), x.gaps(0), x.said(NONE), x.said(0)};
        for (int i = 0; i < none.length; i++) {
            due("new: NONE " + i, none[i], NONE);
        }
        due("new: game", x.game(0, 1), -2);
        due("new: able and open", x.able(0) + x.able(1) + x.open(0) + x.open(1), 0);
        due("new: gaps", x.gaps(NONE), 0);
        due("new: redeem", x.redeem(0), false);
        due("new: restore", x.restore(0) || x.restore(1), false);
        due("new: one way to deal nothing", x.dealings(), 1);
        for (int n = 0; n < 7; n++) {
            due("new: fits", x.fits(n, n) * 10 + x.fits(n, (n + 1) % 7), 10);
            due("new: counts", x.counts(n, 0) + x.counts(n, 1) + x.counts(n, 2), 0);
        }
        due("new: an island of nothing, too", x.island(), 0);
        due("new: a memory of nothing", x.memory(), 0);
        due("new: image", x.image(0), true);
        due("new: restored", x.restore(0), true);
    }

    // 2: Twenty bytes come behind the tape, of each number the highest first
    private static void feedPutsTheHighestByteFirst() {
        for (int place = 0; place < 20; place++) {
            int[] five = {0x20202020, 0x20202020, 0x0a0a0a0a, 0x20202020, 0x20202020};
            int shift = 24 - 8 * (place % 4);
            five[place / 4] = five[place / 4] & ~(255 << shift) | 0xf3 << shift;
            WidowRow x = new WidowRow();
            due("feed", x.feed(five[0], five[1], five[2], five[3], five[4]), 20);
            due("the odd byte is in place " + place, x.island(), -1 - place);
            x.feed(0x20202020, 0x20202020, 0x20202020, 0x20202020, 0x20202020);
            due("feed behind it", x.feed(five[0], five[1], five[2], five[3], five[4]), 40);
            due("the odd byte is in place 20 + " + place, x.island(), -21 - place);
        }
        // p = 70, a = 61, w = 77, n = 6e
        WidowRow x = new WidowRow();
        x.feed(0x20207061, 0x776e2038, 0x393b0a20, 0x20202020, 0x20202020);
        due("pawn 89", x.island() * 100 + x.count(4), 189);
    }

    // 2: how many it has; NONE, and none come, if it would have more than 940
    private static void feedTo940() {
        WidowRow x = new WidowRow();
        for (int k = 1; k <= 47; k++) {
            due("feed", x.feed(0x20202020, 0x20202020, 0x20202020, 0x20202020, 0x20202020), 20 * k);
        }
        for (int n = 940; n > 920; n -= n == 940 ? 18 : 1) {
            due("end " + n, x.end(n), true);
            due("feed to " + (n + 20), x.feed(-1, -1, -1, -1, -1), NONE);
            due("none came", x.count(7), n);
            due("no byte more", x.end(n + 1), false);
        }
        due("end 920", x.end(920), true);
        due("feed to 940", x.feed(0x20202020, 0, 0, 0, 0), 940);
        due("count 7", x.count(7), 940);
        due("one more", x.feed(0, 0, 0, 0, 0), NONE);
        due("the blanks are there, and no more", x.end(900), true);
        due("island of 900 blanks", x.island(), 0);
        due("feed again", x.feed(0, 0, 0, 0, 0), 20);
    }

    // 3: The tape has its first n bytes alone; false, if it has not so many, or n is below 0
    private static void endCuts() {
        WidowRow x = new WidowRow();
        Due.tape(x, "pawn 12;pawn 3;");
        due("fifteen", x.count(7), 15);
        for (int n : new int[] {MIN, -940, -2, -1, 16, 20, 21, 940, 941, MAX}) {
            due("end " + n, x.end(n), false);
            due("they stay", x.count(7), 15);
        }
        due("end 15, all of them", x.end(15), true);
        due("fifteen", x.count(7), 15);
        due("end 8", x.end(8), true);
        due("what is cut is gone", x.end(9), false);
        due("eight", x.count(7), 8);
        due("feed comes behind the eighth", x.feed(0x666f7267, 0x69766520, 0x333b2020, 0x20202020, 0x20202020), 28);
        due("two lines", x.island(), 2);
        due("pawn 12, forgive 3", x.count(4) * 100 + x.count(2), 1208);
        Due.tape(x, "tide");
        due("end 0", x.end(0), true);
        due("nothing", x.count(7), 0);
        due("end 0 of none", x.end(0), true);
        due("end 1 of none", x.end(1), false);
        due("an empty island", x.island(), 0);
    }

    // A new ISLAND: the ROW empty, all STONES in hands, no MEMORY, no SENTENCE; nothing can be undone
    private static void islandBeginsAnew() {
        WidowRow x = Due.on(ISLE);
        Due.memory(x, "deal a 2;deal b 2;deal c 2;passed a 6;");
        Due.sentence(x, "held");
        x.lay(0, 0, 0);
        x.lay(1, 1, 1);
        x.pawn(2);
        x.will(1, 0);
        x.longest();
        x.all();
        x.game(0, 2);
        x.days(5, 3);
        x.write();
        int[] told = told(x);
        due("the same island again", Due.island(x, ISLE), 12);
        due("row", x.count(5), 0);
        for (int s = 0; s < 6; s++) {
            due("whose", Due.stone(x, s, 2), s % 3);
            due("in a hand", Due.stone(x, s, 3), 0);
            due("no place", Due.stone(x, s, 4), 0);
            due("not laid", Due.stone(x, s, 5), NONE);
        }
        for (int w = 0; w < 3; w++) {
            due("no visits", x.widow(w, 4) + x.widow(w, 5), 0);
        }
        due("no memory", x.count(6), 0);
        due("none dealt", x.dealings(), 0);
        due("no sentence", x.said(NONE), NONE);
        due("nothing can be undone", x.undo(), NONE);
        int[] then = told(x);
        for (int i = 0; i < told.length; i++) {
            due("what other calls told last stays: " + i, then[i], told[i]);
        }
        x.tide();
        x.lay(0, 0, 0);
        Due.island(x, "widow z;");
        due("of fewer stones", Due.stone(x, 0, 0), Due.REFUSED);
        due("of fewer widows", x.widow(1, 0), NONE);
        due("no lines of the old island", x.count(1) + x.count(2) + x.count(3), 0);
        due("fits", x.fits(0, 3) * 10 + x.fits(6, 6), 1);
        due("nothing can be undone", x.undo(), NONE);
    }

    private static int[] told(WidowRow x) {
        return new int[] {x.longAt(0), x.longAt(1), x.longAt(2), x.longAt(3), x.allAt(0), x.allAt(1), x.first(),
            x.drawn(0), x.drawn(1), x.drawn(2), x.byteAt(0), x.byteAt(2), x.byteAt(6)};
    }

    // 6: Of STONE s: 0, 1 its pips as told, 2 whose it is, 3 ..., 4 its place, 5 who laid it
    private static void stones() {
        WidowRow x = Due.on(ISLE);
        for (int s : outside(6)) {
            due("stone " + s, Due.stone(x, s, 0), Due.REFUSED);
        }
        for (int what : outside(6)) {
            due("stone 0 " + what, Due.stone(x, 0, what), Due.REFUSED);
            due("stone 5 " + what, Due.stone(x, 5, what), Due.REFUSED);
        }
        due("neither", Due.stone(x, 6, 6), Due.REFUSED);
        due("the last", Due.stone(x, 5, 0) * 10 + Due.stone(x, 5, 1), 16);
        x.lay(0, 3, 0);
        x.lay(1, 1, 0);
        x.lay(2, 5, 1);
        x.pawn(4);
        due("the row", x.at(0) * 100 + x.at(1) * 10 + x.at(2), 135);
        long[][] want = {{6, 5, 0, 0, 0, NONE}, {5, 3, 1, 2, 1, 1}, {3, 3, 2, 0, 0, NONE}, {3, 0, 0, 2, 2, 0},
            {0, 1, 1, 1, 0, NONE}, {1, 6, 2, 2, 3, 2}};
        for (int s = 0; s < 6; s++) {
            for (int what = 0; what < 6; what++) {
                due("stone " + s + " " + what, Due.stone(x, s, what), want[s][what]);
            }
        }
        x.tide();
        due("its pips as told, though it is turned", Due.stone(x, 5, 0) * 10 + Due.stone(x, 5, 1), 16);
        x.cat(0);
        due("a place less", Due.stone(x, 3, 4) * 10 + Due.stone(x, 5, 4), 12);
        due("no more laid", Due.stone(x, 1, 3) * 100 + Due.stone(x, 1, 4) * 10 + Due.stone(x, 1, 5), NONE);
        x.will(1, 2);
        due("whose in hand", Due.stone(x, 1, 2), 2);
        due("whose in pawn", Due.stone(x, 4, 2), 2);
    }

    // 7: The STONE with two pips, in whatever order; NONE: none such
    private static void find() {
        WidowRow x = Due.on(ISLE);
        int[][] told = {{6, 5}, {5, 3}, {3, 3}, {3, 0}, {0, 1}, {1, 6}};
        for (int a = 0; a < 7; a++) {
            for (int b = 0; b < 7; b++) {
                int want = NONE;
                for (int s = 0; s < 6; s++) {
                    if (told[s][0] == a && told[s][1] == b || told[s][0] == b && told[s][1] == a) {
                        want = s;
                    }
                }
                due("find " + a + " " + b, x.find(a, b), want);
            }
        }
        for (int n : outside(7)) {
            due("find 0 " + n, x.find(0, n), NONE);
            due("find 0 turned " + n, x.find(n, 0), NONE);
            due("find twice " + n, x.find(n, n), NONE);
        }
        x.lay(0, 0, 0);
        x.pawn(1);
        due("laid", x.find(5, 6), 0);
        due("in pawn", x.find(3, 5), 1);
    }

    // 8: STONES of WIDOW w; NONE: no such ones
    private static void widows() {
        WidowRow x = Due.on(ISLE);
        for (int w : outside(3)) {
            for (int what = 0; what < 6; what++) {
                due("widow " + w + " " + what, x.widow(w, what), NONE);
            }
        }
        for (int what : outside(6)) {
            due("widow 0 " + what, x.widow(0, what), NONE);
            due("widow 2 " + what, x.widow(2, what), NONE);
        }
        due("widow 3 6", x.widow(3, 6), NONE);
        x.lay(0, 3, 0);
        x.lay(1, 1, 0);
        x.lay(2, 5, 1);
        x.pawn(4);
        long[][] want = {{2, 1, 0, 11, 0, 2}, {2, 0, 1, 0, 1, 0}, {2, 1, 0, 6, 1, 0}};
        for (int w = 0; w < 3; w++) {
            for (int what = 0; what < 6; what++) {
                due("widow " + w + " " + what, x.widow(w, what), want[w][what]);
            }
        }
    }

    private static void widowsOfAnEmptyHand() {
        WidowRow x = Due.on("widow a;widow b;stone 0 0 a;" + "stone 6 6 a;");
        for (int what = 0; what < 6; what++) {
            due("without any: " + what, x.widow(1, what), 0);
        }
        due("with two", x.widow(0, 0) * 1000 + x.widow(0, 1) * 100 + x.widow(0, 3), 2212);
        x.pawn(1);
        due("pips in her hand alone", x.widow(0, 3), 0);
        x.pawn(0);
        due("both in pawn", x.widow(0, 0) * 100 + x.widow(0, 1) * 10 + x.widow(0, 2), 202);
        x.will(0, 1);
        due("nothing any more", x.widow(0, 0) + x.widow(0, 1) + x.widow(0, 2), 0);
        due("all hers", x.widow(1, 0) * 100 + x.widow(1, 1) * 10 + x.widow(1, 2), 202);
        WidowRow full = Due.on("widow a;" + Due.stones(28, "a"));
        due("all 28", full.widow(0, 0) * 1000 + full.widow(0, 3), 28168);
    }

    // 9: 1: pips N FIT on M (0 to 6); 0: not; NONE. FIT, if they do not quarrel, and are alike, or one is forgiven
    private static void fitsOfAllPips() {
        WidowRow x = Due.on("forgive 0;forgive 6;quarrel 0 0;quarrel 6 2;quarrel 3 3;quarrel 4 5;quarrel 0 6;");
        for (int n = 0; n < 7; n++) {
            for (int m = 0; m < 7; m++) {
                int low = Math.min(n, m);
                int high = Math.max(n, m);
                int both = 10 * low + high;
                boolean quarrel = both == 0 || both == 26 || both == 33 || both == 45 || both == 6;
                boolean fit = !quarrel && (low == high || low == 0 || high == 6);
                due("fits " + n + " " + m, x.fits(n, m), fit ? 1 : 0);
            }
        }
        for (int n : outside(7)) {
            for (int m = 0; m < 7; m += 6) {
                due("fits " + n + " " + m, x.fits(n, m), NONE);
                due("fits " + m + " " + n, x.fits(m, n), NONE);
            }
            due("fits " + n, x.fits(n, n), NONE);
        }
    }

    // 10: The i-th STONE of the ROW from the left (0 on); NONE: there is none such
    private static void at() {
        WidowRow x = Due.on(ISLE);
        for (int i : outside(0)) {
            due("empty: at " + i, x.at(i), NONE);
        }
        x.lay(0, 3, 1);
        due("the only one", x.at(0), 3);
        for (int i : outside(1)) {
            due("one: at " + i, x.at(i), NONE);
        }
        x.lay(1, 1, 0);
        due("from the left", x.at(0) * 10 + x.at(1), 13);
        due("at 2", x.at(2), NONE);
        x.cat(1);
        due("gone", x.at(1), NONE);
    }

    // 11: Pips at an END of the ROW (0, 1); NONE: it is empty, no such one
    private static void pips() {
        WidowRow x = Due.on(ISLE);
        due("empty", x.pips(0) + x.pips(1), -2);
        x.lay(0, 3, 0);
        due("one stone, 3 0", x.pips(0) * 10 + x.pips(1), 30);
        for (int end : outside(2)) {
            due("pips " + end, x.pips(end), NONE);
        }
        x.lay(1, 1, 0);
        due("5 3 3 0", x.pips(0) * 10 + x.pips(1), 50);
        x.tide();
        due("5 3 0 3", x.pips(0) * 10 + x.pips(1), 53);
        x.cat(0);
        x.cat(0);
        due("empty again", x.pips(0) + x.pips(1), -2);
    }

    // 12, 13: NONE: no such ones
    private static void whyOfNoSuchOnes() {
        WidowRow x = Due.on(ISLE);
        for (int w : outside(3)) {
            due("why " + w, x.why(w, 0, 0), NONE);
            due("lay " + w, x.lay(w, 0, 0), NONE);
        }
        for (int s : outside(6)) {
            due("why of stone " + s, x.why(0, s, 0), NONE);
            due("lay stone " + s, x.lay(0, s, 0), NONE);
        }
        for (int end : outside(2)) {
            due("why at " + end, x.why(0, 0, end), NONE);
            due("lay at " + end, x.lay(0, 0, end), NONE);
            due("not hers, at " + end, x.lay(1, 0, end), NONE);
        }
        due("nothing was laid", x.count(5) + x.undo(), -1);
        due("the last ones", x.why(2, 5, 1), 0);
    }

    // why not, the least: 1 it is not in her hand
    private static void notInHerHand() {
        WidowRow x = Due.on(ISLE);
        due("another's, in hand", x.lay(1, 0, 0), 1);
        x.pawn(0);
        due("her own, in pawn", x.lay(0, 0, 0), 1);
        due("another's, in pawn", x.lay(1, 0, 0), 1);
        x.redeem(0);
        due("redeemed", x.lay(0, 0, 0), 0);
        due("her own, laid", x.lay(0, 0, 1), 1);
        due("another's, laid", x.lay(1, 0, 1), 1);
        x.will(0, 1);
        due("willed", x.lay(0, 3, 1), 1);
        due("the heir can, but for its pips", x.why(1, 3, 1), 0);
    }

    // 2 the STONE at that END was laid by herself
    private static void theStoneAtThatEndIsHerOwn() {
        WidowRow x = Due.on("widow a;widow b;" + Due.allForgiven()
                + "stone 1 1 a;stone 1 2 a;stone 1 3 a;stone 1 4 b;stone 1 5 b;");
        x.lay(0, 0, 0);
        due("both ends", x.lay(0, 1, 0) * 10 + x.lay(0, 1, 1), 22);
        x.lay(1, 3, 1);
        due("left is still hers", x.lay(0, 1, 0), 2);
        due("right is b's", x.why(0, 1, 1), 0);
        due("b at the right", x.lay(1, 4, 1), 2);
        due("b at the left", x.lay(1, 4, 0), 0);
        due("now a can at both", x.why(0, 1, 0) + x.why(0, 1, 1), 0);
        x.cat(0);
        due("a's is at the left end again", x.lay(0, 1, 0), 2);
        // whose the stone in her hand was at first does not matter, nor what she willed
        x.will(0, 1);
        due("laid by a, willed or not", x.lay(1, 1, 0), 0);
        due("b's own now", x.lay(1, 2, 0), 2);
        x.cat(0);
        x.will(1, 0);
        due("a laid that one herself", x.lay(0, 1, 0), 2);
        x.cat(1);
        due("and it is both ends", x.lay(0, 2, 1), 2);
    }

    // 3 neither of its pips FITS that END
    private static void neitherFits() {
        WidowRow x = Due.on("widow a;widow b;stone 1 2 a;stone 3 4 b;stone 2 5 b;stone 5 1 b;stone 0 6 b;stone 2 2 b;"
                + "quarrel 2 2;");
        x.lay(0, 0, 0);
        due("3 4", x.lay(1, 1, 0) * 10 + x.lay(1, 1, 1), 33);
        due("2 5 quarrels with 2", x.lay(1, 2, 0) * 10 + x.lay(1, 2, 1), 33);
        due("2 2", x.why(1, 5, 1), 3);
        due("5 1 fits the left alone", x.why(1, 3, 0) * 10 + x.why(1, 3, 1), 3);
        due("0 6", x.why(1, 4, 0), 3);
        WidowRow y = Due.on("widow a;widow b;stone 0 2 a;stone 3 4 b;stone 5 5 b;stone 0 0 b;stone 4 5 b;forgive 0;"
                + "quarrel 5 0;quarrel 0 0;quarrel 0 4;");
        y.lay(0, 0, 1);
        due("a forgiven end", y.why(1, 1, 0), 0);
        due("not where they quarrel", y.why(1, 2, 0) * 10 + y.why(1, 3, 0), 33);
        due("neither of 4 5", y.why(1, 4, 0), 3);
        due("a forgiven stone at 2", y.why(1, 3, 1), 0);
    }

    private static void theLeastReason() {
        WidowRow x = Due.on("widow a;widow b;stone 1 2 a;stone 3 4 a;stone 5 6 b;stone 1 1 b;");
        x.lay(0, 0, 0);
        due("2 ahead of 3", x.why(0, 1, 0), 2);
        due("3 alone", x.why(1, 2, 0), 3);
        due("1 ahead of 3", x.why(1, 1, 0), 1);
        due("1 ahead of 2", x.why(0, 3, 0), 1);
        due("1 ahead of 2 and 3", x.why(0, 2, 0), 1);
        x.pawn(1);
        due("1 ahead of 2 and 3, in pawn", x.lay(0, 1, 0), 1);
    }

    // The first STONE of all: as told, whoever lays it (only 1 can be)
    private static void theFirstStoneOfAll() {
        WidowRow x = Due.on("widow a;widow b;stone 4 2 a;stone 3 3 b;quarrel 4 4;quarrel 2 2;quarrel 3 3;");
        due("1 can be", x.lay(1, 0, 0), 1);
        due("at the left", x.lay(0, 0, 0), 0);
        Due.row("as told", x, "4 2");
        x.tide();
        x.cat(1);
        due("at the right, by the same", x.lay(0, 0, 1), 0);
        Due.row("as told, though it was turned", x, "4 2");
        due("nobody is visited", x.widow(0, 4) + x.widow(0, 5) + x.widow(1, 4) + x.widow(1, 5), 0);
        x.cat(0);
        due("one that quarrels with itself", x.lay(1, 1, 1), 0);
        Due.row("3 3", x, "3 3");
    }

    // with its first pips (as told) to the ROW, if these FIT, else turned
    private static void firstPipsToTheRow() {
        String isle = "widow a;widow b;stone 1 2 a;";
        String[] stone = {"2 5", "5 2", "2 2", "2 0", "0 2", "0 5", "5 0", "4 2", "3 0", "0 3", "4 0", "0 4"};
        String[] right = {"2 5", "2 5", "2 2", "2 0", "0 2", "0 5", "0 5", "2 4", "3 0", "0 3", "0 4", "0 4"};
        for (int i = 0; i < stone.length; i++) {
            WidowRow x = Due.on(isle + "stone " + stone[i] + " b;forgive 0;forgive 3;");
            due("lay " + stone[i], x.lay(1, 1, 1), 0);
            x.cat(1);
            x.lay(0, 0, 0);
            due("lay " + stone[i] + " behind", x.lay(1, 1, 1), 0);
            Due.row("at the right", x, "1 2 " + right[i]);
        }
        String[] leftStone = {"1 5", "5 1", "1 1", "1 0", "0 1", "0 5", "5 0", "3 0", "0 3"};
        String[] left = {"5 1", "5 1", "1 1", "0 1", "1 0", "5 0", "5 0", "0 3", "3 0"};
        for (int i = 0; i < leftStone.length; i++) {
            WidowRow x = Due.on(isle + "stone " + leftStone[i] + " b;forgive 0;forgive 3;");
            x.lay(0, 0, 0);
            due("lay " + leftStone[i] + " ahead", x.lay(1, 1, 0), 0);
            Due.row("at the left", x, left[i] + " 1 2");
        }
        WidowRow x = Due.on(isle + "stone 0 2 b;stone 0 1 b;forgive 0;quarrel 0 2;quarrel 1 0;");
        x.lay(0, 0, 0);
        x.lay(1, 1, 1);
        Due.row("the first quarrel at the right", x, "1 2 2 0");
        x.cat(1);
        x.lay(1, 2, 0);
        Due.row("the first quarrel at the left", x, "0 1 1 2");
    }

    // She VISITS her who laid the STONE at that END
    private static void visitsPaidAndHad() {
        WidowRow x = Due.on("widow a;widow b;widow c;" + Due.allForgiven()
                + "stone 1 1 a;stone 1 2 b;stone 1 3 c;stone 1 4 a;stone 1 5 b;");
        x.lay(0, 0, 1);
        visits("nobody", x, 0, 0, 0, 0, 0, 0);
        x.lay(1, 1, 1);
        visits("b visits a", x, 0, 1, 1, 0, 0, 0);
        x.lay(2, 2, 0);
        visits("c visits a at the left", x, 0, 2, 1, 0, 1, 0);
        x.lay(0, 3, 0);
        visits("a visits c", x, 1, 2, 1, 0, 1, 1);
        x.lay(0, 3, 0);
        x.lay(1, 4, 1);
        visits("none by those refused", x, 1, 2, 1, 0, 1, 1);
        x.cat(0);
        x.cat(1);
        x.tide();
        visits("cats and tides do not change them", x, 1, 2, 1, 0, 1, 1);
        x.will(0, 2);
        x.lay(2, 3, 1);
        visits("her who laid it: the heir visits a", x, 1, 3, 1, 0, 2, 1);
        x.undo();
        visits("undone", x, 1, 2, 1, 0, 1, 1);
    }

    private static void visits(String call, WidowRow x, int... want) {
        for (int i = 0; i < want.length; i++) {
            due(call + ": " + i, x.widow(i / 2, 4 + i % 2), want[i]);
        }
    }

    /** A row of all 28 stones: the last place at either end, and one past it. */
    private static void fullRow() {
        WidowRow x = Due.on("widow a;widow b;" + Due.allForgiven() + Due.stones(28, "a", "b"));
        for (int s = 0; s < 28; s++) {
            due("lay at the right " + s, x.lay(s % 2, s, 1), 0);
        }
        due("28", x.count(5), 28);
        due("the ends", x.at(0) * 100 + x.at(27), 27);
        due("at 28", x.at(28), NONE);
        due("place", Due.stone(x, 27, 4), 28);
        due("no more", x.able(0) + x.able(1) + x.open(0) + x.open(1) + x.greedy() + x.longest() + x.all(), 0);
        due("111 bytes", x.write(), 111);
        due("bytes", x.byteAt(110) * 1000 + x.byteAt(109), '6' * 1000 + ' ');
        due("byte 111", x.byteAt(111), NONE);
        due("stretch", x.stretch(), 28);
        due("visits", x.widow(0, 4) * 1000 + x.widow(1, 4), 13014);
        due("game with empty hands", x.game(1, 0) * 10 + x.first(), 9);
        due("counts", x.counts(3, 0) + x.counts(3, 1) * 10 + x.counts(3, 2) * 100, 800);
        due("cat left", x.cat(0), 0);
        due("27", x.count(5), 27);
        due("all one to the left", x.at(0) * 100 + x.at(26), 127);
        due("and at the left again", x.lay(0, 0, 0), 0);
        due("as before", x.at(0) * 100 + x.at(27), 27);
        for (int s = 0; s < 28; s++) {
            due("cat", x.cat(0), s);
        }
        due("empty", x.count(5), 0);
        due("one cat more", x.cat(0), NONE);
        due("undo one of the cats", x.undo() * 100 + x.at(0), 727);
    }

    // 14: A CAT at an END: the STONE; NONE: the ROW is empty, no such one
    private static void cats() {
        WidowRow x = Due.on(ISLE);
        due("empty", x.cat(0) + x.cat(1), -2);
        x.lay(0, 0, 0);
        x.lay(1, 1, 1);
        x.lay(2, 2, 1);
        for (int end : outside(2)) {
            due("cat " + end, x.cat(end), NONE);
        }
        due("three", x.count(5), 3);
        due("left", x.cat(0), 0);
        due("right", x.cat(1), 2);
        due("the last at its left", x.cat(0), 1);
        due("empty again", x.cat(0) + x.cat(1), -2);
        x.lay(1, 1, 0);
        due("the last at its right", x.cat(1), 1);
        due("undo the latest of eight", x.undo() * 10 + x.count(5), 71);
    }

    // goes back to the hand of her whose it is
    private static void catGoesBackToHer() {
        WidowRow x = Due.on(ISLE);
        x.lay(0, 0, 0);
        x.lay(1, 1, 1);
        x.will(0, 2);
        x.will(1, 2);
        due("none in hand", x.widow(0, 1) + x.widow(1, 1), 0);
        x.cat(0);
        x.cat(0);
        due("hers", Due.stone(x, 0, 2) * 10 + Due.stone(x, 1, 2), 1);
        due("in hands", x.widow(0, 1) * 10 + x.widow(1, 1), 11);
        due("not laid by anybody", Due.stone(x, 0, 5), NONE);
        due("she can lay it again", x.lay(0, 0, 1), 0);
    }

    // 15: A TIDE: the pips at the right END then; NONE: the ROW is empty
    private static void tides() {
        WidowRow x = Due.on(ISLE);
        due("empty", x.tide(), NONE);
        x.lay(0, 0, 1);
        due("the only one", x.tide(), 6);
        Due.row("turned", x, "5 6");
        due("back", x.tide(), 5);
        Due.row("as it was", x, "6 5");
        x.lay(1, 1, 1);
        due("the right one alone", x.tide(), 5);
        Due.row("turned", x, "6 5 3 5");
        due("who laid it stays", Due.stone(x, 1, 5), 1);
        x.cat(1);
        x.lay(1, 1, 1);
        Due.row("laid anew", x, "6 5 5 3");
        x.lay(2, 2, 1);
        due("a double", x.tide(), 3);
        due("undo of that", x.undo(), 7);
        x.cat(0);
        x.cat(0);
        x.cat(0);
        due("empty again", x.tide(), NONE);
    }

    // 16: what it is worth: both its pips together times what is told; NONE: it is in no hand, no such one
    private static void pawns() {
        WidowRow x = Due.on("widow a;widow b;stone 6 6 a;stone 0 0 a;stone 1 0 b;pawn 99;");
        for (int s : outside(3)) {
            due("pawn " + s, x.pawn(s), NONE);
        }
        due("the most", x.pawn(0), 1188);
        due("of no pips", x.pawn(1), 0);
        due("one", x.pawn(2), 99);
        due("in pawn", x.pawn(0) + x.pawn(1) + x.pawn(2), -3);
        due("those in pawn", x.widow(0, 2) * 10 + x.widow(1, 2), 21);
        x.redeem(2);
        x.lay(1, 2, 0);
        due("laid", x.pawn(2), NONE);
        due("three are kept, the redeemed and the laid one", x.undo(), 4);
        due("worth nothing", Due.on("widow a;stone 6 6 a;pawn 0;").pawn(0), 0);
        due("5 without", Due.on("widow a;stone 6 6 a;").pawn(0), 60);
        due("1", Due.on("widow a;stone 6 5 a;pawn 1;").pawn(0), 11);
    }

    // 17: A STONE is REDEEMED: true; false: it is not in pawn, no such one
    private static void redeems() {
        WidowRow x = Due.on(ISLE);
        for (int s : outside(6)) {
            due("redeem " + s, x.redeem(s), false);
        }
        due("in a hand", x.redeem(0), false);
        x.pawn(0);
        x.pawn(5);
        due("the first and the last", x.redeem(0) && x.redeem(5), true);
        due("in hands again", Due.stone(x, 0, 3) + Due.stone(x, 5, 3), 0);
        due("again", x.redeem(0) || x.redeem(5), false);
        x.lay(0, 0, 0);
        due("laid", x.redeem(0), false);
        due("five can be undone", x.undo(), 4);
    }

    // 18: WILL of WIDOW w for another one: how many STONES; NONE: no such ones, one alone
    private static void wills() {
        WidowRow x = Due.on(ISLE);
        for (int w : outside(3)) {
            due("will of " + w, x.will(w, 0), NONE);
            due("will for " + w, x.will(0, w), NONE);
            due("will of and for " + w, x.will(w, w), NONE);
        }
        for (int w = 0; w < 3; w++) {
            due("one alone", x.will(w, w), NONE);
        }
        due("nothing was done", x.undo(), NONE);
        x.pawn(0);
        x.lay(1, 1, 0);
        due("in hand and in pawn", x.will(0, 2), 2);
        due("in her hand, in pawn", Due.stone(x, 0, 3) * 10 + Due.stone(x, 3, 3), 10);
        due("the heir's", x.widow(2, 0) * 100 + x.widow(2, 1) * 10 + x.widow(2, 2), 431);
        due("none but one laid", x.will(1, 2), 1);
        due("the laid one is still hers", x.widow(1, 0), 1);
        due("nothing at all", x.will(0, 1), 0);
        due("nothing but one laid", x.will(1, 0), 0);
        due("the last widow's", x.will(2, 0), 5);
        due("alone on an island", Due.on("widow a;stone 0 0 a;").will(0, 0), NONE);
        WidowRow full = Due.on("widow a;widow b;" + Due.stones(28, "a"));
        due("all 28", full.will(0, 1), 28);
    }

    // 19: The latest ... that was done is undone
    private static void undoesOneOfEach() {
        WidowRow x = Due.on(ISLE);
        due("nothing", x.undo(), NONE);
        x.lay(0, 0, 0);
        due("lay", x.undo() + x.count(5) + x.widow(0, 1), 2);
        due("no more", x.undo(), NONE);
        x.lay(0, 0, 0);
        x.lay(1, 1, 1);
        x.cat(0);
        due("cat at the left", x.undo(), 2);
        due("in its place", x.at(0) * 10 + x.at(1), 1);
        x.cat(1);
        due("cat at the right", x.undo(), 2);
        Due.row("as it was", x, "6 5 5 3");
        x.tide();
        due("tide", x.undo(), 2);
        Due.row("turned back", x, "6 5 5 3");
        x.pawn(2);
        due("pawn", x.undo() * 10 + Due.stone(x, 2, 3), 20);
        x.pawn(2);
        x.redeem(2);
        due("redeem", x.undo() * 10 + Due.stone(x, 2, 3), 31);
        x.will(2, 1);
        due("will", x.undo() * 10 + Due.stone(x, 2, 2), 32);
        due("whose in hand", Due.stone(x, 5, 2), 2);
        x.days(200, 5);
        due("200 days at once", x.undo() * 10 + x.count(5), 32);
        due("visits, too", x.widow(0, 4) * 1000 + x.widow(0, 5) * 100 + x.widow(1, 4) * 10 + x.widow(1, 5), 110);
        due("what days told stays", x.drawn(0) != NONE, true);
        due("pawn", x.undo() * 10 + Due.stone(x, 2, 3), 20);
        due("lay of b", x.undo() * 10 + x.widow(1, 4) + x.widow(0, 5), 10);
        due("lay of a", x.undo() + x.count(5), 0);
        due("no more", x.undo(), NONE);
        x.will(2, 1);
        x.will(2, 1);
        due("a will of nothing was done, too", x.undo(), 1);
    }

    // (8 at most are kept)
    private static void undoesEight() {
        WidowRow x = Due.on("widow a;widow b;" + Due.allForgiven() + Due.stones(12, "a", "b"));
        for (int done = 1; done <= 8; done++) {
            x.lay((done - 1) % 2, done - 1, 1);
        }
        due("the eighth", x.undo() * 100 + x.count(5), 707);
        x.lay(1, 7, 1);
        for (int left = 7; left >= 0; left--) {
            due("eight: undo", x.undo() * 100 + x.count(5), left * 100 + left);
        }
        due("eight: no more", x.undo(), NONE);
        for (int done = 1; done <= 9; done++) {
            x.lay((done - 1) % 2, done - 1, 1);
        }
        for (int left = 7; left >= 0; left--) {
            due("nine: undo", x.undo() * 100 + x.count(5), left * 100 + left + 1);
        }
        due("nine: no more", x.undo(), NONE);
        due("the first of nine stays", x.at(0), 0);
        for (int s = 1; s < 12; s++) {
            x.lay(s % 2, s, 0);
        }
        for (int left = 7; left >= 5; left--) {
            due("eleven: undo", x.undo() * 100 + x.count(5), left * 100 + left + 4);
        }
        x.pawn(11);
        x.tide();
        x.redeem(11);
        for (int left = 7; left >= 0; left--) {
            due("undo over both", x.undo(), left);
        }
        due("no more", x.undo(), NONE);
        due("four are left", x.count(5) * 100 + x.at(0) * 10 + x.at(3), 430);
    }

    // NONE: none is
    private static void undoesNothing() {
        WidowRow x = Due.on(ISLE);
        Due.memory(x, "deal a 1;");
        Due.sentence(x, "held");
        x.longest();
        x.all();
        x.game(0, 1);
        x.greedy();
        x.write();
        x.image(0);
        x.why(0, 0, 0);
        due("these are not undone", x.undo(), NONE);
        x.lay(0, 0, 0);
        x.image(1);
        Due.memory(x, "deal a 1;deal b 1;");
        Due.sentence(x, "not held");
        Due.memory(x, "deal z 1;");
        Due.island(x, "tide");
        due("the lay is", x.undo() + x.count(5), 0);
        due("memory and sentence stay", x.count(6) * 10 + x.said(NONE), 20);
        due("no more", x.undo(), NONE);
        x.lay(0, 0, 0);
        x.restore(1);
        due("behind a restore", x.undo() * 10 + x.count(5), -9);
        x.cat(0);
        Due.island(x, ISLE);
        due("behind a new island", x.undo(), NONE);
    }

    // 20: Whom WIDOW w CAN VISIT, as bits; NONE: no such one
    private static void canVisit() {
        WidowRow x = Due.on("widow a;widow b;widow c;widow d;widow e;widow f;stone 1 2 f;stone 2 3 a;stone 4 1 b;"
                + "stone 5 5 c;stone 3 4 d;stone 6 6 e;stone 4 0 f;stone 2 2 e;");
        for (int w = 0; w < 6; w++) {
            due("empty row: visits " + w, x.visits(w), 0);
        }
        for (int w : outside(6)) {
            due("visits " + w, x.visits(w), NONE);
        }
        x.lay(5, 0, 0);
        int[] want = {32, 32, 0, 0, 32, 0};
        for (int w = 0; w < 6; w++) {
            due("f's stone: visits " + w, x.visits(w), want[w]);
        }
        x.lay(0, 1, 1);
        x.lay(1, 2, 0);
        // 4 1 1 2 2 3: b at the left, a at the right
        int[] then = {0, 0, 0, 3, 0, 2};
        for (int w = 0; w < 6; w++) {
            due("b's and a's: visits " + w, x.visits(w), then[w]);
        }
        x.pawn(4);
        due("in pawn", x.visits(3), 0);
        x.redeem(4);
        x.lay(3, 4, 1);
        due("another stone by her whom f visits at the left", x.visits(5), 10);
        due("her own at the right", x.visits(3), 0);
    }

    // 21: WIDOWS who have a STONE in hand that they can LAY at an END, as bits; NONE: no such one
    private static void able() {
        WidowRow x = Due.on("widow a;widow b;widow c;stone 1 2 a;stone 2 3 c;stone 1 1 c;");
        for (int end : outside(2)) {
            due("able " + end, x.able(end), NONE);
        }
        due("whoever has one", x.able(0) * 10 + x.able(1), 55);
        x.lay(0, 0, 0);
        due("c at both", x.able(0) * 10 + x.able(1), 44);
        x.pawn(2);
        due("c at the right", x.able(0) * 10 + x.able(1), 4);
        x.will(2, 0);
        due("not a herself", x.able(0) * 10 + x.able(1), 0);
        x.will(0, 1);
        due("b", x.able(0) * 10 + x.able(1), 2);
        x.cat(0);
        due("empty again", x.able(0) * 10 + x.able(1), 33);
        WidowRow six = Due.on("widow a;widow b;widow c;widow d;widow e;widow f;"
                + Due.stones(6, "a", "b", "c", "d", "e", "f"));
        due("all six", six.able(1), 63);
        due("nobody has any", Due.on("widow a;widow b;").able(0), 0);
        due("the last of six, who has the only one",
                Due.on("widow a;widow b;widow c;widow d;widow e;widow f;stone 0 0 f;").able(0), 32);
    }

    // 28: STONES in hands that can be laid at an END by whoever has them (2 of LAY never mind), as bits
    private static void open() {
        WidowRow x = Due.on("widow a;widow b;stone 1 2 a;stone 2 3 a;stone 1 1 b;stone 4 4 b;stone 6 2 b;");
        for (int end : outside(2)) {
            due("open " + end, x.open(end), NONE);
        }
        due("empty: all in hands", x.open(0) * 100 + x.open(1), 3131);
        x.pawn(3);
        due("empty: not those in pawn", x.open(0), 23);
        x.redeem(3);
        x.lay(0, 0, 0);
        due("left: 1 1", x.open(0), 4);
        due("right: her own 2 3, and 6 2", x.open(1), 18);
        x.pawn(4);
        due("not those in pawn", x.open(1), 2);
        due("the last stone", Due.on("widow a;" + Due.stones(28, "a")).open(1), (1 << 28) - 1);
    }

    // 29: of the longest stretch of the ROW without a gap how many STONES (0: it is empty)
    private static void stretch() {
        WidowRow x = Due.on("widow a;widow b;stone 1 2 a;stone 2 3 b;stone 3 4 a;stone 4 1 b;stone 1 5 a;");
        due("empty", x.stretch(), 0);
        x.lay(0, 0, 1);
        due("one", x.stretch(), 1);
        x.lay(1, 1, 1);
        due("two", x.stretch(), 2);
        x.tide();
        due("a gap between two", x.stretch(), 1);
        x.tide();
        x.lay(0, 2, 1);
        due("three", x.stretch(), 3);
        x.tide();
        due("the gap at the right", x.stretch(), 2);
        x.lay(1, 1, 1);
        due("refused", x.stretch(), 2);
        x.tide();
        x.lay(1, 3, 1);
        x.tide();
        x.lay(0, 4, 1);
        due("1 2 2 3 3 4 1 4 refuses 1 5", x.count(5), 4);
        due("three and one", x.stretch(), 3);
        x.cat(0);
        due("two and one", x.stretch(), 2);
        x.cat(0);
        x.cat(0);
        due("the last one", x.stretch(), 1);
        x.cat(0);
        due("empty again", x.stretch(), 0);
        WidowRow y = Due.on("widow a;widow b;stone 1 1 a;stone 1 2 b;stone 1 3 a;stone 3 4 b;stone 4 5 a;");
        y.lay(0, 0, 1);
        y.lay(1, 1, 1);
        y.tide();
        y.lay(0, 2, 1);
        y.lay(1, 3, 1);
        y.lay(0, 4, 1);
        Due.row("a gap behind the first", y, "1 1 2 1 1 3 3 4 4 5");
        due("the stretch behind the gap", y.stretch(), 4);
        due("the gap", y.gaps(NONE) * 10 + y.gaps(0), 11);
    }

    // 31: Who has most VISITS paid less those had (of like ones the first); NONE: no WIDOWS
    private static void dearest() {
        due("no widows", new WidowRow().dearest(), NONE);
        due("one", Due.on("widow a;").dearest(), 0);
        due("alike", Due.on("widow a;widow b;").dearest(), 0);
        WidowRow x = Due.on("widow a;widow b;widow c;" + Due.allForgiven()
                + "stone 1 1 a;stone 1 2 c;stone 1 3 b;stone 1 4 a;stone 1 5 c;stone 1 6 a;");
        x.lay(0, 0, 0);
        due("all alike at 0", x.dearest(), 0);
        x.lay(1, 2, 1);
        due("b has 1", x.dearest(), 1);
        x.lay(2, 1, 0);
        due("b and c have 1, a -2", x.dearest(), 1);
        x.lay(0, 3, 1);
        due("a -1, b 0, c 1", x.dearest(), 2);
        x.lay(0, 5, 0);
        due("a 0, b 0, c 0: the first", x.dearest(), 0);
        WidowRow last = Due.on("widow a;widow b;stone 1 1 a;stone 1 2 b;");
        last.lay(0, 0, 0);
        last.lay(1, 1, 0);
        due("the last one", last.dearest(), 1);
        last.undo();
        due("undone", last.dearest(), 0);
    }

    // 32: Pips n (0 to 6): how often in hands (what 0), in pawn (1), in the ROW (2); a double twice
    private static void counts() {
        WidowRow x = Due.on("widow a;widow b;stone 0 0 a;stone 0 6 b;stone 6 6 a;stone 3 0 b;");
        for (int n : outside(7)) {
            due("counts " + n, x.counts(n, 0), NONE);
        }
        for (int what : outside(3)) {
            due("counts 0 " + what, x.counts(0, what), NONE);
            due("counts 6 " + what, x.counts(6, what), NONE);
        }
        due("neither", x.counts(7, 3), NONE);
        int[] hands = {4, 0, 0, 1, 0, 0, 3};
        for (int n = 0; n < 7; n++) {
            due("counts " + n, x.counts(n, 0) * 100 + x.counts(n, 1) * 10 + x.counts(n, 2), hands[n] * 100);
        }
        x.pawn(0);
        x.lay(0, 2, 0);
        due("0", x.counts(0, 0) * 100 + x.counts(0, 1) * 10 + x.counts(0, 2), 220);
        due("6", x.counts(6, 0) * 100 + x.counts(6, 1) * 10 + x.counts(6, 2), 102);
        due("3", x.counts(3, 0) * 100 + x.counts(3, 1) * 10 + x.counts(3, 2), 100);
        x.lay(1, 1, 1);
        x.tide();
        due("6, lying turned or not", x.counts(6, 2), 3);
    }

    // 33: each time the first is (2 times its number, 1 more for the right END; of those that can); nothing is changed
    private static void greedy() {
        due("no stones", Due.on("widow a;").greedy(), 0);
        due("one", Due.on("widow a;stone 0 0 a;").greedy(), 1);
        due("one widow can lay no two", Due.on("widow a;" + Due.stones(28, "a") + Due.allForgiven()).greedy(), 1);
        WidowRow all = Due.on("widow a;widow b;" + Due.stones(28, "a", "b") + Due.allForgiven());
        due("all 28", all.greedy(), 28);
        due("nothing is changed", all.count(5) + all.undo() + all.widow(0, 4) + all.widow(1, 5), -1);
        // 1 2 goes to the left, and leaves 3 1 nothing but her own at the right
        WidowRow left = Due.on("widow a;widow b;stone 1 1 a;stone 1 2 b;stone 3 1 a;stone 3 3 b;stone 2 6 b;");
        due("1 1, then 2 1 at the left", left.greedy(), 2);
        WidowRow ends = Due.on("widow a;widow b;stone 1 2 a;stone 1 3 b;stone 2 3 b;stone 3 4 a;");
        due("left, right, and a on the left", ends.greedy(), 4);
        ends.lay(1, 1, 0);
        due("from the row as it is", ends.greedy(), 3);
        ends.pawn(0);
        ends.pawn(3);
        due("nothing can be", ends.greedy(), 0);
        due("the row is as it was", ends.count(5) * 10 + ends.at(0), 11);
    }

    // 40: of each STONE both pips as they lie, one blank (32) ahead of each pip but the very first; 41: NONE
    private static void writes() {
        WidowRow x = Due.on(ISLE);
        due("ahead of any", x.byteAt(0), NONE);
        due("an empty row", x.write(), 0);
        due("no byte", x.byteAt(0), NONE);
        x.lay(0, 0, 0);
        due("the text is not made by lay", x.byteAt(0), NONE);
        due("three bytes", x.write(), 3);
        for (int i : outside(3)) {
            due("byte " + i, x.byteAt(i), NONE);
        }
        due("6", x.byteAt(0), 54);
        due("blank", x.byteAt(1), 32);
        due("5", x.byteAt(2), 53);
        x.lay(2, 5, 0);
        x.lay(1, 1, 1);
        due("the text made last stays", x.byteAt(3), NONE);
        due("eleven bytes", x.write(), 11);
        due("the last one", x.byteAt(10), 51);
        due("behind it", x.byteAt(11), NONE);
        Due.row("as they lie", x, "1 6 6 5 5 3");
        x.tide();
        Due.row("as they lie, turned", x, "1 6 6 5 3 5");
        x.cat(0);
        x.cat(0);
        x.cat(0);
        due("the text stays with an empty row", x.byteAt(10), 53);
        due("until the next one is made", x.write(), 0);
        due("no byte", x.byteAt(0), NONE);
        x.lay(0, 3, 0);
        due("3 0", x.write() + x.byteAt(0) + x.byteAt(2), 3 + 51 + 48);
    }

    // 42: how many (k NONE), or the k-th (1: between the first two). NONE: none such
    private static void gaps() {
        WidowRow x = Due.on("widow a;widow b;stone 1 1 a;stone 1 2 b;stone 1 3 a;stone 1 4 b;quarrel 4 4;");
        due("empty", x.gaps(NONE) * 10 + x.gaps(0), -1);
        x.lay(0, 0, 0);
        due("one stone", x.gaps(NONE) * 10 + x.gaps(0), -1);
        x.lay(1, 1, 1);
        due("two that fit", x.gaps(NONE) * 10 + x.gaps(0), -1);
        x.tide();
        due("between the first two", x.gaps(NONE) * 10 + x.gaps(0), 11);
        x.lay(0, 2, 1);
        x.tide();
        due("between the second and the third, too", x.gaps(NONE) * 100 + x.gaps(0) * 10 + x.gaps(1), 212);
        for (int k : new int[] {MIN, -3, -2, 2, 3, MAX}) {
            due("gaps " + k, x.gaps(k), NONE);
        }
        x.cat(0);
        due("places are told anew", x.gaps(NONE) * 10 + x.gaps(0), 11);
        WidowRow y = Due.on("widow a;widow b;stone 1 1 a;stone 0 1 b;stone 2 1 a;forgive 0;quarrel 1 1;");
        y.lay(0, 0, 0);
        due("0 is forgiven, 1 quarrels", y.lay(1, 1, 1), 0);
        due("no gap", y.gaps(NONE), 0);
        y.tide();
        due("alike, but in a quarrel", y.gaps(NONE) * 10 + y.gaps(0), 11);
    }

    // 45: kept in place k (0, 1): true; false: no such one. 46: They are as kept in place k
    private static void images() {
        WidowRow x = Due.on(ISLE);
        for (int k : outside(2)) {
            due("image " + k, x.image(k), false);
            due("restore " + k, x.restore(k), false);
        }
        Due.memory(x, "deal a 2;deal b 2;deal c 2;passed b 0;");
        Due.sentence(x, "held and of a");
        x.lay(0, 0, 0);
        x.lay(1, 1, 1);
        x.tide();
        x.pawn(2);
        x.will(2, 1);
        due("image 0", x.image(0), true);
        due("nothing changes by it", x.undo(), 4);
        x.will(2, 1);
        Due.memory(x, "");
        Due.sentence(x, "laid");
        x.cat(0);
        x.cat(0);
        due("image 1", x.image(1), true);
        x.lay(1, 4, 0);
        x.days(3, 3);
        x.write();
        x.longest();
        Due.island(x, "widow zz;stone 4 4 zz;forgive 3;pawn 9;");
        Due.tape(x, "0123456789");
        due("restore 0", x.restore(0), true);
        int[] counts = {3, 6, 1, 1, 4, 2, 4, 10};
        for (int what = 0; what < 8; what++) {
            due("restored: count " + what, x.count(what), counts[what]);
        }
        Due.row("restored", x, "6 5 3 5");
        due("hands", x.widow(0, 1) * 100 + x.widow(1, 1) * 10 + x.widow(2, 1), 120);
        due("pawns", x.widow(1, 2), 1);
        due("visits", x.widow(1, 4) * 10 + x.widow(0, 5), 11);
        due("memory", x.dealings(), 36);
        due("sentence", x.said(NONE) * 10 + x.said(0), 13);
        due("names", x.end(0) ? Due.sentence(x, "of zz") : 0, -4);
        due("fits", x.fits(3, 4) * 10 + x.fits(6, 0), 1);
        due("nothing can be undone", x.undo(), NONE);
        x.cat(0);
        due("restore 1", x.restore(1), true);
        due("that one's row", x.count(5), 0);
        due("that one's memory", x.count(6), 0);
        due("nothing can be undone", x.undo(), NONE);
        due("restore 0 again", x.restore(0), true);
        due("as before", x.count(5) * 10 + x.count(6), 24);
        due("a cat at work", x.cat(0), 0);
        due("does not change the image", x.restore(0), true);
        due("two stones", x.count(5), 2);
        x.cat(1);
        due("image 0 anew", x.image(0), true);
        x.cat(0);
        due("restore 0", x.restore(0) ? x.count(5) : NONE, 1);
        due("image 1 is as it was", x.restore(1) ? x.count(5) : NONE, 0);
    }

    // 46: false: no such one, or nothing is kept there
    private static void imagesNeverMade() {
        WidowRow x = Due.on(ISLE);
        x.lay(0, 0, 0);
        due("neither", x.restore(0) || x.restore(1), false);
        x.image(1);
        due("0 is still not", x.restore(0), false);
        due("the lay can still be undone", x.undo(), 0);
        due("1 is", x.restore(1), true);
        due("one stone", x.count(5), 1);
        WidowRow y = Due.on(ISLE);
        y.image(0);
        due("1 is still not", y.restore(1), false);
        due("0 is", y.restore(0), true);
        WidowRow empty = new WidowRow();
        due("an image of a new object", empty.image(0), true);
        Due.island(empty, ISLE);
        Due.memory(empty, "deal a 1;");
        due("an island in place of another", empty.restore(0), true);
        due("nothing again", empty.count(0) + empty.count(1) + empty.count(6), 0);
        Due.island(empty, ISLE);
        due("a new island does not change the images", empty.restore(0) ? empty.count(0) : NONE, 0);
    }

    // 47: NONE for another what
    private static void countsOfTheIsland() {
        WidowRow x = new WidowRow();
        for (int what : outside(8)) {
            due("count " + what, x.count(what), NONE);
        }
        Due.island(x, "widow a;widow b;stone 1 2 a;stone 1 1 b;stone 6 6 b;forgive 6;quarrel 1 1;quarrel 6 0;pawn 99;");
        x.lay(0, 0, 0);
        Due.memory(x, "deal a 1;deal b 1;seen 6 6;passed a 0;");
        Due.tape(x, "pawn");
        int[] want = {2, 3, 64, 2, 99, 1, 4, 4};
        for (int what = 0; what < 8; what++) {
            due("count " + what, x.count(what), want[what]);
        }
        for (int what : outside(8)) {
            due("count " + what, x.count(what), NONE);
        }
        x.cat(0);
        x.end(3);
        due("a cat and an end", x.count(5) * 10 + x.count(7), 3);
    }

    // An object is used for at most 512 calls after it has been made
    private static void the512thCall() {
        WidowRow x = new WidowRow();
        int calls = 0;
        String isle = "widow a;widow b;stone 1 2 a;stone 2 3 b;";
        Due.island(x, isle);
        calls += (isle.length() + 19) / 20 + 2;
        while (calls < 508) {
            due("lay", x.lay(0, 0, calls % 2), 0);
            due("lay", x.lay(1, 1, 1), 0);
            due("cat", x.cat(1), 1);
            due("cat", x.cat(0), 0);
            calls += 4;
        }
        due("b has paid", x.widow(1, 4), (calls - 4) / 4);
        due("undo", x.undo(), 7);
        calls += 2;
        while (calls < 511) {
            due("undo", x.undo() != NONE, true);
            calls++;
        }
        due("the 512th", x.count(5), 2);
    }
}
