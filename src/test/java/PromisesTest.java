/** Each promise of the document on its own: ordinary calls, the edges it names, and wrong ones. */
public final class PromisesTest {
    private static final int NONE = WidowRow.NONE;
    private static final String ISLE = "widow ann;widow bea;widow cil;stone 6 5 ann;stone 5 3 bea;stone 3 3 cil;"
            + "stone 3 0 ann;stone 0 1 bea;stone 1 6 cil;forgive 0;quarrel 6 1;pawn 4;";

    private PromisesTest() {
    }

    public static void main(String[] args) {
        newObject();
        feedAndEnd();
        island();
        stoneFindWidow();
        fitsAtPips();
        fullRow();
        whyAndLay();
        catAndTide();
        pawnRedeemWill();
        undo();
        visitsAndAble();
        longest();
        all();
        game();
        openStretchGapsWrite();
        leads();
        dearestAndCounts();
        greedy();
        memory();
        dealings();
        days();
        sentence();
        said();
        images();
        counts();
        manyCalls();
        Due.finish("PromisesTest");
    }

    private static void due(String call, long got, long want) {
        Due.due(call, got, want);
    }

    private static void due(String call, boolean got, boolean want) {
        Due.due(call, got, want);
    }

    private static WidowRow on(String text) {
        WidowRow x = new WidowRow();
        due("island of " + text, Due.island(x, text) >= 0, true);
        return x;
    }

    private static long stone(WidowRow x, int s, int what) {
        return Due.orRefused(() -> x.stone(s, what));
    }

    private static String text(WidowRow x) {
        StringBuilder all = new StringBuilder();
        int size = x.write();
        for (int i = 0; i < size; i++) {
            all.append((char) x.byteAt(i));
        }
        return all.toString();
    }

    // 1
    private static void newObject() {
        WidowRow x = new WidowRow();
        int[] counts = {0, 0, 0, 0, 5, 0, 0, 0};
        for (int what = 0; what < 8; what++) {
            due("new: count " + what, x.count(what), counts[what]);
        }
        due("new: fault", x.fault(), 0);
        due("new: undo", x.undo(), NONE);
        due("new: drawn", x.drawn(0), NONE);
        due("new: said", x.said(-1), NONE);
        due("new: first", x.first(), NONE);
        due("new: longAt", x.longAt(0), NONE);
        due("new: allAt", x.allAt(0), NONE);
        due("new: byteAt", x.byteAt(0), NONE);
        due("new: dealings", x.dealings(), 1);
        due("new: dearest", x.dearest(), NONE);
        due("new: restore", x.restore(1), false);
    }

    // 2, 3
    private static void feedAndEnd() {
        WidowRow x = new WidowRow();
        for (int k = 1; k <= 47; k++) {
            due("feed " + k, x.feed(0, 0, 0, 0, 0), 20 * k);
        }
        due("feed to 960", x.feed(0, 0, 0, 0, 0), NONE);
        due("count 7 when full", x.count(7), 940);
        due("end 941", x.end(941), false);
        due("end -1", x.end(-1), false);
        due("end 940", x.end(940), true);
        due("end 921", x.end(921), true);
        due("feed to 941", x.feed(0, 0, 0, 0, 0), NONE);
        due("none came", x.count(7), 921);
        due("end 920", x.end(920), true);
        due("feed to 940", x.feed(0, 0, 0, 0, 0), 940);
        due("end 0", x.end(0), true);
        due("end 1 of none", x.end(1), false);
        // "widow a;" and "widow b;" with blanks: the highest byte of each number comes first.
        due("feed widows", x.feed(0x77696477 ^ 0x00000018, 0x20202020, 0, 0, 0), 20);
        x.end(0);
        due("feed widow a", x.feed(0x7769646f, 0x7720613b, 0x7769646f, 0x7720623b, 0xffffffff), 20);
        due("end 16", x.end(16), true);
        due("island of two", x.island(), 2);
        due("two widows", x.count(0), 2);
        due("the tape is empty then", x.count(7), 0);
        x.feed(0x7769646f, 0x7720613b, 0xff202020, 0, 0);
        due("a byte above 127", x.island(), -9);
        due("its fault", x.fault(), 1);
        due("the tape is empty with a fault, too", x.count(7), 0);
    }

    // 4, 5
    private static void island() {
        WidowRow x = new WidowRow();
        due("lines", Due.island(x, ISLE), 12);
        x.lay(0, 0, 0);
        Due.memory(x, "deal ann 1;");
        Due.sentence(x, "held");
        x.longest();
        x.write();
        due("fault in an island", Due.island(x, "widow ann;widow ann;"), -17);
        due("it stays", x.count(5) * 100 + x.count(6) * 10 + x.said(-1), 115);
        due("fault", x.fault(), 3);
        due("island of blanks", Due.island(x, " \n "), 0);
        due("no fault", x.fault(), 0);
        due("nothing stays", x.count(0) + x.count(1) + x.count(2) + x.count(3) + x.count(5) + x.count(6), 0);
        due("pawn is 5 again", x.count(4), 5);
        due("no sentence", x.said(-1), NONE);
        due("nothing to undo", x.undo(), NONE);
        due("what was told stays: longAt", x.longAt(0) != NONE, true);
        due("what was told stays: byteAt", x.byteAt(0), '6');
    }

    // 6, 7, 8
    private static void stoneFindWidow() {
        WidowRow x = on(ISLE);
        x.lay(1, 1, 0);
        x.lay(0, 0, 0);
        x.pawn(2);
        long[][] want = {{6, 5, 0, 2, 1, 0}, {5, 3, 1, 2, 2, 1}, {3, 3, 2, 1, 0, NONE}, {3, 0, 0, 0, 0, NONE}};
        for (int s = 0; s < want.length; s++) {
            for (int what = 0; what < 6; what++) {
                due("stone " + s + " " + what, stone(x, s, what), want[s][what]);
            }
        }
        due("stone -1", stone(x, -1, 0), Due.REFUSED);
        due("stone 6", stone(x, 6, 0), Due.REFUSED);
        due("stone 0 -1", stone(x, 0, -1), Due.REFUSED);
        due("stone 0 6", stone(x, 0, 6), Due.REFUSED);
        due("find as told", x.find(6, 5), 0);
        due("find turned", x.find(0, 3), 3);
        due("find a double", x.find(3, 3), 2);
        due("find none", x.find(6, 6), NONE);
        due("find what can't be", x.find(-1, 7), NONE);
        x.cat(0);
        x.lay(0, 0, 0);
        long[][] widows = {{2, 1, 0, 3, 2, 0}, {2, 1, 0, 1, 0, 2}, {2, 1, 1, 7, 0, 0}};
        for (int w = 0; w < 3; w++) {
            for (int what = 0; what < 6; what++) {
                due("widow " + w + " " + what, x.widow(w, what), widows[w][what]);
            }
        }
        due("widow 3", x.widow(3, 0), NONE);
        due("widow -1", x.widow(-1, 0), NONE);
        due("widow 0 6", x.widow(0, 6), NONE);
        due("widow 0 -1", x.widow(0, -1), NONE);
    }

    // 9, 10, 11
    private static void fitsAtPips() {
        WidowRow x = on("widow a;stone 1 2 a;forgive 0;quarrel 3 3;quarrel 0 5;quarrel 6 1;");
        due("alike", x.fits(2, 2), 1);
        due("not alike", x.fits(2, 4), 0);
        due("forgiven", x.fits(0, 4), 1);
        due("forgiven the other way", x.fits(4, 0), 1);
        due("quarrel with itself", x.fits(3, 3), 0);
        due("quarrel of a forgiven one", x.fits(5, 0), 0);
        due("fits 7", x.fits(0, 7), NONE);
        due("fits -1", x.fits(-1, 0), NONE);
        due("at of none", x.at(0), NONE);
        due("pips of none", x.pips(1), NONE);
        x.lay(0, 0, 1);
        due("at 0", x.at(0), 0);
        due("at 1", x.at(1), NONE);
        due("at -1", x.at(-1), NONE);
        due("pips left", x.pips(0), 1);
        due("pips right", x.pips(1), 2);
        due("pips 2", x.pips(2), NONE);
        due("pips -1", x.pips(-1), NONE);
    }

    private static void fullRow() {
        StringBuilder isle = new StringBuilder("widow a;widow b;forgive 0;forgive 1;forgive 2;forgive 3;forgive 4;"
                + "forgive 5;forgive 6;");
        int told = 0;
        for (int a = 0; a < 7; a++) {
            for (int b = a; b < 7; b++) {
                isle.append("stone ").append(a).append(" ").append(b).append(told % 2 == 0 ? " a;" : " b;");
                told++;
            }
        }
        WidowRow x = on(isle.toString());
        for (int s = 0; s < 28; s++) {
            due("full row, from the right: lay " + s, x.lay(s % 2, s, 0), 0);
        }
        for (int s = 0; s < 28; s++) {
            due("at " + s, x.at(27 - s), s);
            due("place of " + s, stone(x, s, 4), 28 - s);
        }
        due("write", x.write(), 111);
        due("the last byte", x.byteAt(110), '0');
        due("stretch", x.stretch(), 28);
        due("nothing left", x.able(0) + x.open(1) + x.longest() + x.all() + x.greedy(), 0);
        for (int s = 0; s < 28; s++) {
            due("cat " + s, x.cat(1), s);
        }
        due("greedy lays all", x.greedy(), 28);
        due("all in hands", x.open(0), (1 << 28) - 1);
    }

    // 12, 13
    private static void whyAndLay() {
        WidowRow x = on(ISLE);
        due("not hers, first of all", x.lay(1, 0, 0), 1);
        due("why with no widow", x.why(3, 0, 0), NONE);
        due("why with no stone", x.why(0, 6, 0), NONE);
        due("why with no end", x.why(0, 0, 2), NONE);
        due("lay with no widow", x.lay(-1, 0, 0), NONE);
        due("lay with no stone", x.lay(0, -1, 0), NONE);
        due("lay with no end", x.lay(0, 0, -1), NONE);
        due("the first lies as told", x.lay(0, 0, 1), 0);
        due("row", text(x).equals("6 5"), true);
        due("laid, no more in hand", x.why(0, 0, 0), 1);
        due("1 ahead of 2 and 3", x.why(0, 2, 0), 1);
        due("2 ahead of 3", x.why(0, 3, 0), 2);
        due("3: nothing fits", x.why(2, 2, 1), 3);
        due("why changes nothing", x.why(1, 1, 1), 0);
        due("left end, second pips inside", x.lay(2, 5, 0), 0);
        due("right end, first pips inside", x.lay(1, 1, 1), 0);
        due("row of three", text(x).equals("1 6 6 5 5 3"), true);
        due("a forgiven one at the left", x.lay(1, 4, 0), 0);
        due("row of four", text(x).equals("1 0 1 6 6 5 5 3"), true);
        due("right end, double", x.lay(2, 2, 1), 0);
        due("the last one", x.lay(0, 3, 1), 0);
        due("row of six", text(x).equals("1 0 1 6 6 5 5 3 3 3 3 0"), true);
        due("visits", x.widow(0, 4) * 100 + x.widow(1, 4) * 10 + x.widow(2, 4), 122);
        due("had", x.widow(0, 5) * 100 + x.widow(1, 5) * 10 + x.widow(2, 5), 212);
        WidowRow y = on("widow a;widow b;stone 1 2 a;stone 2 0 b;stone 1 0 b;forgive 0;");
        y.lay(0, 0, 0);
        due("both fit at the left: first pips inside", y.lay(1, 2, 0), 0);
        due("row", text(y).equals("0 1 1 2"), true);
        y.cat(0);
        due("both fit at the right: first pips inside", y.lay(1, 1, 1), 0);
        due("row", text(y).equals("1 2 2 0"), true);
        WidowRow z = on("widow a;widow b;stone 1 2 a;stone 0 2 b;forgive 0;");
        z.lay(0, 0, 0);
        z.lay(1, 1, 1);
        due("first pips forgiven are inside, though the second are alike", text(z).equals("1 2 0 2"), true);
    }

    // 14, 15
    private static void catAndTide() {
        WidowRow x = on(ISLE);
        due("cat of none", x.cat(0), NONE);
        due("tide of none", x.tide(), NONE);
        x.lay(0, 0, 0);
        x.lay(1, 1, 1);
        x.lay(2, 5, 0);
        due("cat 2", x.cat(2), NONE);
        due("cat -1", x.cat(-1), NONE);
        due("tide", x.tide(), 5);
        due("row", text(x).equals("1 6 6 5 3 5"), true);
        due("cat left", x.cat(0), 5);
        due("in her hand again", stone(x, 5, 3), 0);
        due("row", text(x).equals("6 5 3 5"), true);
        due("cat right", x.cat(1), 1);
        due("visits stay", x.widow(1, 4) + x.widow(2, 4), 2);
        due("tide of one", x.tide(), 6);
        due("row", text(x).equals("5 6"), true);
        due("the last one", x.cat(0), 0);
        due("first again", x.lay(0, 0, 0), 0);
        due("as told again", text(x).equals("6 5"), true);
        x.will(0, 1);
        due("a cat brings it to her who laid it", x.cat(1), 0);
        due("whose", stone(x, 0, 2), 0);
    }

    // 16, 17, 18
    private static void pawnRedeemWill() {
        WidowRow x = on(ISLE);
        due("pawn", x.pawn(0), 44);
        due("pawn again", x.pawn(0), NONE);
        due("pawn 6", x.pawn(6), NONE);
        due("pawn -1", x.pawn(-1), NONE);
        due("not in her hand", x.lay(0, 0, 0), 1);
        due("redeem", x.redeem(0), true);
        due("redeem again", x.redeem(0), false);
        due("redeem 6", x.redeem(6), false);
        due("redeem -1", x.redeem(-1), false);
        x.lay(0, 0, 0);
        due("pawn a laid one", x.pawn(0), NONE);
        due("redeem a laid one", x.redeem(0), false);
        x.pawn(1);
        due("will to herself", x.will(1, 1), NONE);
        due("will of nobody", x.will(3, 1), NONE);
        due("will for nobody", x.will(1, -1), NONE);
        due("will", x.will(1, 2), 2);
        due("hers now, in pawn", stone(x, 1, 2) * 10 + stone(x, 1, 3), 21);
        due("hers now, in hand", stone(x, 4, 2) * 10 + stone(x, 4, 3), 20);
        due("will of one who has laid one", x.will(0, 2), 1);
        due("the laid one stays hers", stone(x, 0, 2), 0);
        due("nothing to will", x.will(0, 1), 0);
        due("redeemed to the heir", x.redeem(1), true);
        due("the heir's hand", x.widow(2, 1), 5);
        WidowRow y = on("widow a;stone 6 6 a;");
        due("5 without", y.pawn(0), 60);
        due("pawn 0", on("widow a;stone 6 6 a;pawn 0;").pawn(0), 0);
        due("pawn 99", on("widow a;stone 6 6 a;pawn 99;").pawn(0), 1188);
    }

    // 19
    private static void undo() {
        WidowRow x = on(ISLE);
        x.lay(0, 0, 0);
        x.lay(1, 1, 1);
        x.tide();
        x.cat(0);
        x.pawn(2);
        x.redeem(2);
        x.will(0, 1);
        due("days", x.days(3, 7) >= 0, true);
        due("days are one", x.undo(), 7);
        due("will", x.undo() * 10 + x.widow(0, 1), 62);
        due("redeem", x.undo() * 10 + stone(x, 2, 3), 51);
        due("pawn", x.undo() * 10 + stone(x, 2, 3), 40);
        due("cat", x.undo() * 10 + x.count(5), 32);
        due("row", text(x).equals("6 5 3 5"), true);
        due("tide", x.undo(), 2);
        due("row", text(x).equals("6 5 5 3"), true);
        due("visits are undone", x.undo() * 10 + x.widow(1, 4) + x.widow(0, 5), 10);
        due("the first", x.undo() * 10 + x.count(5), 0);
        due("no more", x.undo(), NONE);
        for (int k = 0; k < 12; k++) {
            x.will(k % 2, 1 - k % 2);
        }
        for (int k = 7; k >= 0; k--) {
            due("eight are kept", x.undo(), k);
        }
        due("the ninth is not", x.undo(), NONE);
        due("hers", x.widow(0, 1) * 10 + x.widow(1, 1), 40);
        x.lay(1, 0, 0);
        x.cat(2);
        x.pawn(9);
        x.redeem(0);
        x.will(0, 0);
        x.days(0, 1);
        due("the refused are not kept", x.undo(), NONE);
        x.pawn(0);
        Due.memory(x, "deal ann 3;");
        Due.sentence(x, "held");
        due("memory and sentence stay", x.undo() * 100 + x.count(6) * 10 + x.said(-1), 16);
    }

    // 20, 21
    private static void visitsAndAble() {
        WidowRow x = on(ISLE);
        due("nobody to visit", x.visits(0), 0);
        due("visits 3", x.visits(3), NONE);
        due("visits -1", x.visits(-1), NONE);
        due("all are able", x.able(0), 7);
        due("able 2", x.able(2), NONE);
        due("able -1", x.able(-1), NONE);
        x.lay(0, 0, 0);
        due("not herself", x.visits(0), 0);
        due("bea", x.visits(1), 1);
        due("cil", x.visits(2), 1);
        due("able left", x.able(0), 6);
        due("able right", x.able(1), 2);
        x.lay(1, 1, 1);
        x.lay(2, 5, 0);
        due("ann: bea and cil", x.visits(0), 6);
        due("bea: cil", x.visits(1), 4);
        x.pawn(3);
        due("nothing in hand", x.visits(0), 0);
        x.pawn(2);
        x.pawn(4);
        due("nobody is able", x.able(0) + x.able(1), 0);
    }

    // 22, 23
    private static void longest() {
        WidowRow x = on("widow a;stone 1 2 a;stone 1 3 a;stone 5 5 a;");
        due("on an empty row", x.longest(), 2);
        due("the first turned", x.longAt(0) * 10 + x.longAt(1), 12);
        due("longAt 2", x.longAt(2), NONE);
        due("longAt -1", x.longAt(-1), NONE);
        x.lay(0, 2, 0);
        due("nothing fits", x.longest(), 0);
        due("longAt of none", x.longAt(0), NONE);
        WidowRow y = on("widow a;widow b;stone 0 6 a;stone 6 1 b;stone 6 2 a;stone 1 2 b;stone 2 2 a;");
        y.lay(0, 0, 0);
        due("as told ahead of turned, lesser first", y.longest(), 4);
        due("6 1, 1 2, 2 2, 2 6", y.longAt(0) * 1000 + y.longAt(1) * 100 + y.longAt(2) * 10 + y.longAt(3), 2685);
        y.pawn(4);
        due("not of those in pawn", y.longest(), 3);
        WidowRow z = on("widow a;" + stones(12, "a"));
        due("twelve are not too many", z.longest() > 0, true);
        int before = z.longAt(0);
        z = on("widow a;" + stones(13, "a"));
        due("thirteen are", z.longest(), NONE);
        due("nothing told yet", z.longAt(0), NONE);
        z.lay(0, 12, 0);
        due("twelve in hand", z.longest() > 0, true);
        due("told", z.longAt(0) != NONE, true);
        before = z.longAt(0);
        z.cat(0);
        due("thirteen again", z.longest(), NONE);
        due("the latest that was not NONE", z.longAt(0), before);
        WidowRow all = on("widow a;" + stones(12, "a") + "forgive 0;forgive 1;forgive 2;forgive 3;forgive 4;forgive 5;"
                + "forgive 6;");
        due("all fit", all.longest(), 12);
        for (int i = 0; i < 12; i++) {
            due("in order, as told", all.longAt(i), 2 * i);
        }
    }

    private static String stones(int n, String widow) {
        StringBuilder all = new StringBuilder();
        int told = 0;
        for (int a = 0; a < 7; a++) {
            for (int b = a; b < 7; b++) {
                if (told < n) {
                    all.append("stone ").append(a).append(" ").append(b).append(" ").append(widow).append(";");
                    told++;
                }
            }
        }
        return all.toString();
    }

    // 24, 25
    private static void all() {
        WidowRow x = on(ISLE);
        due("on an empty row", x.all(), 3);
        due("0 left, 1 right", x.allAt(0) * 100 + x.allAt(1), 3);
        due("then 2 right", x.allAt(2), 5);
        due("allAt 3", x.allAt(3), NONE);
        due("allAt -1", x.allAt(-1), NONE);
        x.lay(0, 0, 0);
        due("ann must lay again", x.all(), 3);
        due("1 right", x.allAt(0), 3);
        due("2 right", x.allAt(1), 5);
        due("3 right", x.allAt(2), 7);
        x.will(0, 1);
        due("not of her who has none", x.all(), 2);
        x.will(1, 0);
        x.will(2, 0);
        due("herself at both ends", x.all(), NONE);
        due("the latest that was not NONE", x.allAt(0), 3);
        x.pawn(1);
        x.pawn(2);
        x.pawn(3);
        x.pawn(4);
        x.pawn(5);
        due("nobody has one", x.all(), 0);
        due("allAt of none", x.allAt(0), NONE);
        due("ten", on("widow a;" + stones(10, "a")).all(), 1);
        due("eleven", on("widow a;" + stones(11, "a")).all(), NONE);
        WidowRow y = on("widow a;widow b;widow c;stone 1 2 a;stone 3 3 c;stone 2 4 b;stone 4 3 a;");
        due("one more, so that c can", y.all(), 3);
        due("c's double first", y.allAt(0) * 100 + y.allAt(1) * 10 + y.allAt(2), 264);
        WidowRow z = on("widow a;widow b;stone 1 1 a;stone 2 2 b;");
        due("it can't be", z.all(), NONE);
    }

    // 26, 27
    private static void game() {
        WidowRow x = on("widow a;widow b;widow c;stone 1 2 a;stone 2 3 b;stone 1 4 b;stone 2 5 a;stone 6 6 c;");
        due("row empty", x.game(0, 1), -2);
        x.lay(0, 0, 0);
        due("with herself", x.game(0, 0), -2);
        due("with nobody", x.game(0, 3), -2);
        due("nobody", x.game(-1, 0), -2);
        due("a lays her last", x.game(0, 1), 1);
        due("at the right", x.first(), 7);
        due("b begins: she takes the right end", x.game(1, 0), 1);
        due("her first", x.first(), 3);
        due("c can't lay, a wins", x.game(2, 0), -1);
        due("c passes", x.first(), NONE);
        x.game(0, 1);
        due("-2", x.game(2, 2), -2);
        due("the latest that was not -2", x.first(), 7);
        x.pawn(3);
        due("a has none: won at once", x.game(0, 1), 1);
        due("first of that", x.first(), NONE);
        due("b has none: lost at once", x.game(1, 0), -1);
        x.pawn(4);
        due("both have none: a ahead", x.game(0, 2), 1);
        due("c ahead of a", x.game(2, 0), 1);
        WidowRow y = on("widow a;widow b;widow c;stone 0 0 c;stone 1 2 a;stone 3 4 b;stone 1 1 b;stone 2 2 c;");
        y.lay(2, 0, 0);
        due("neither can: fewer pips", y.game(0, 1), 1);
        due("over at once", y.first(), NONE);
        due("the other way", y.game(1, 0), -1);
        due("more than c", y.game(1, 2), -1);
        y.pawn(2);
        due("fewer now", y.game(0, 1), -1);
        WidowRow even = on("widow a;widow b;stone 0 0 a;stone 1 2 a;stone 3 0 b;quarrel 0 3;quarrel 0 0;");
        even.lay(0, 0, 0);
        due("alike: nobody", even.game(0, 1), 0);
        due("alike: nobody", even.game(1, 0), 0);
        WidowRow ten = on("widow a;widow b;" + stones(11, "a") + "stone 6 6 b;");
        ten.lay(0, 0, 0);
        due("eleven in both hands", ten.game(0, 1), -2);
        ten.pawn(5);
        due("ten", ten.game(0, 1) != -2, true);
        WidowRow later = on("widow a;widow b;stone 1 3 a;stone 2 5 b;stone 0 3 a;stone 1 4 b;stone 1 6 a;");
        later.lay(0, 0, 0);
        due("2 right would be nobody's: b lays 3, then neither can", later.game(0, 1), 1);
        due("4 left leaves b nothing", later.first(), 8);
        WidowRow must = on("widow a;widow b;stone 0 1 a;stone 1 2 a;stone 2 3 a;stone 2 5 b;stone 5 6 b;");
        must.lay(0, 0, 0);
        due("she must lay", must.game(0, 1), -1);
        due("though she loses", must.first(), 3);
    }

    // 10, 28, 29, 40, 41, 42
    private static void openStretchGapsWrite() {
        WidowRow x = on(ISLE);
        due("all", x.open(0), 63);
        x.pawn(1);
        due("not in pawn", x.open(1), 61);
        x.redeem(1);
        due("open 2", x.open(2), NONE);
        due("open -1", x.open(-1), NONE);
        due("no row: stretch", x.stretch(), 0);
        due("no row: gaps", x.gaps(-1), 0);
        due("no row: write", x.write(), 0);
        due("no row: byteAt", x.byteAt(0), NONE);
        x.lay(0, 0, 0);
        due("hers, too", x.open(0), 1 << 3 | 1 << 4 | 1 << 5);
        due("one: stretch", x.stretch(), 1);
        x.lay(1, 1, 1);
        x.lay(2, 5, 0);
        due("six bytes and five blanks", x.write(), 11);
        due("byte 0", x.byteAt(0), '1');
        due("byte 1", x.byteAt(1), ' ');
        due("byte 10", x.byteAt(10), '3');
        due("byte 11", x.byteAt(11), NONE);
        due("byte -1", x.byteAt(-1), NONE);
        due("no gap", x.gaps(-1) * 10 + x.stretch(), 3);
        x.tide();
        due("the text stays", x.byteAt(10), '3');
        due("one gap", x.gaps(-1), 1);
        due("between the second and the third", x.gaps(0), 2);
        due("no second", x.gaps(1), NONE);
        due("gaps -2", x.gaps(-2), NONE);
        due("two of three", x.stretch(), 2);
        WidowRow y = on("widow a;widow b;stone 0 1 a;stone 1 2 b;stone 2 3 a;stone 3 4 b;stone 2 5 b;stone 1 6 a;");
        y.lay(0, 2, 0);
        y.lay(1, 1, 0);
        y.lay(0, 0, 0);
        y.lay(1, 3, 1);
        due("four", y.stretch(), 4);
        y.cat(1);
        y.tide();
        y.lay(1, 4, 1);
        due("0 1 1 2 3 2 2 5", text(y).equals("0 1 1 2 3 2 2 5"), true);
        due("gap", y.gaps(0), 2);
        due("two", y.stretch(), 2);
        y.tide();
        due("two gaps", y.gaps(-1), 2);
        due("the second", y.gaps(1), 3);
        due("the first stretch", y.stretch(), 2);
    }

    // 30
    private static void leads() {
        WidowRow x = on(ISLE);
        due("none needed", x.leads(5, 5), 0);
        due("forgiven", x.leads(2, 0), 0);
        due("one", x.leads(6, 5), 1);
        due("five", x.leads(2, 4), 5);
        due("leads -1", x.leads(-1, 0), NONE);
        due("leads 7", x.leads(0, 7), NONE);
        x.pawn(1);
        x.pawn(5);
        due("by a forgiven one", x.leads(6, 3), 1);
        x.pawn(0);
        due("not of those in pawn", x.leads(6, 6), 0);
        x.pawn(3);
        due("none is left", x.leads(6, 5), NONE);
        WidowRow y = on("widow a;stone 1 2 a;stone 3 4 a;");
        due("none do", y.leads(1, 4), NONE);
        due("to the other side", y.leads(2, 1), 1);
        due("not twice the same", on("widow a;stone 1 2 a;forgive 0;forgive 1;quarrel 0 2;quarrel 0 4;").leads(0, 4),
                NONE);
        WidowRow z = on("widow a;" + stones(13, "a"));
        due("thirteen", z.leads(1, 1), NONE);
        z.lay(0, 0, 0);
        due("twelve", z.leads(1, 1), 0);
    }

    // 31, 32
    private static void dearestAndCounts() {
        WidowRow x = on(ISLE);
        due("all alike", x.dearest(), 0);
        x.lay(0, 0, 0);
        x.lay(1, 1, 1);
        due("bea", x.dearest(), 1);
        x.lay(2, 5, 0);
        due("bea ahead of cil", x.dearest(), 1);
        x.lay(2, 2, 1);
        due("cil", x.dearest(), 2);
        due("3 in hands", x.counts(3, 0), 1);
        due("3 in the row", x.counts(3, 2), 3);
        x.cat(1);
        x.pawn(2);
        due("a double in pawn", x.counts(3, 1), 2);
        due("no double in hands", x.counts(3, 0), 1);
        due("counts 7", x.counts(7, 0), NONE);
        due("counts -1", x.counts(-1, 0), NONE);
        due("counts 3 3", x.counts(0, 3), NONE);
        due("counts 3 -1", x.counts(0, -1), NONE);
    }

    // 33
    private static void greedy() {
        WidowRow x = on(ISLE);
        due("all", x.greedy(), 6);
        due("nothing is changed", x.count(5) + x.undo(), -1);
        x.lay(0, 0, 0);
        due("from there", x.greedy(), 5);
        WidowRow one = on("widow a;stone 1 1 a;stone 1 2 a;");
        due("not on herself", one.greedy(), 1);
        WidowRow none = new WidowRow();
        due("no stones", none.greedy(), 0);
    }

    // 34
    private static void memory() {
        WidowRow x = on(ISLE);
        due("lines", Due.memory(x, "deal ann 2;seen 3 3;passed bea 6;passed bea 5;"), 4);
        due("count 6", x.count(6), 4);
        due("a fault", Due.memory(x, "deal ann 2;deal ann 2;"), -17);
        due("its kind", x.fault(), 3);
        due("it stays", x.count(6), 4);
        due("the tape is empty", x.count(7), 0);
        due("none", Due.memory(x, ""), 0);
        due("count 6", x.count(6), 0);
        due("fault", x.fault(), 0);
    }

    // 35, 36, 37
    private static void dealings() {
        WidowRow x = on(ISLE);
        due("no memory: not as many", x.dealings(), 0);
        due("sure of none", x.sure(0), 0);
        Due.memory(x, "deal ann 2;deal bea 2;deal cil 2;");
        due("6! / 2 2 2", x.dealings(), 90);
        due("a third", x.whose(3, 1), 30);
        due("whose 6", x.whose(6, 0), NONE);
        due("whose -1", x.whose(-1, 0), NONE);
        due("whose of nobody", x.whose(0, 3), NONE);
        due("sure 3", x.sure(3), NONE);
        due("sure -1", x.sure(-1), NONE);
        Due.memory(x, "seen 5 6;seen 1 6;deal ann 1;deal bea 3;passed ann 3;");
        due("ann has 0 1", x.dealings(), 1);
        due("sure of ann", x.sure(0), 16);
        due("sure of bea", x.sure(1), 14);
        due("sure of cil", x.sure(2), 0);
        due("seen: not dealt", x.whose(0, 0), 0);
        due("hers", x.whose(4, 0), 1);
        due("not hers", x.whose(4, 1), 0);
        x.lay(0, 0, 0);
        due("the row does not matter", x.dealings(), 1);
        Due.memory(x, "seen 5 6;seen 1 6;deal ann 1;deal bea 2;passed ann 3;");
        due("one too few", x.dealings(), 0);
        due("whose then", x.whose(4, 0), 0);
        due("sure then", x.sure(0), 0);
        Due.memory(x, "deal ann 3;deal bea 3;passed ann 3;passed bea 3;");
        due("nobody can have it", x.dealings(), 0);
        due("sure then", x.sure(0), 0);
        Due.memory(x, "deal ann 3;deal bea 3;passed ann 3;passed ann 5;passed bea 0;");
        due("each stone has one place left", x.dealings(), 0);
        Due.memory(x, "seen 0 3;deal ann 2;deal bea 3;passed ann 3;passed ann 5;passed bea 0;");
        due("now they have", x.dealings(), 1);
        due("ann's", x.sure(0), 48);
        due("bea's", x.sure(1), 7);
        WidowRow big = on("widow a;widow b;widow c;widow d;widow e;widow f;" + stones(28, "a"));
        Due.memory(big, "deal a 5;deal b 5;deal c 5;deal d 5;deal e 4;deal f 4;");
        due("all stones", big.dealings(), 2552662243097366400L);
        due("five of 28", big.whose(27, 0), 455832543410244000L);
        due("sure of none", big.sure(5), 0);
    }

    // 38, 39
    private static void days() {
        WidowRow none = new WidowRow();
        due("no widows", none.days(1, 1), NONE);
        WidowRow x = on(ISLE);
        due("0 days", x.days(0, 1), NONE);
        due("201 days", x.days(201, 1), NONE);
        due("-1 days", x.days(-1, 1), NONE);
        due("drawn of none", x.drawn(0), NONE);
        int laid = x.days(200, -5);
        due("200 days", laid >= 0, true);
        due("row", x.count(5), laid - x.drawn(0));
        due("another what", x.drawn(3), NONE);
        due("another what", x.drawn(-1), NONE);
        int cats = x.drawn(0);
        x.days(0, 1);
        due("the latest that was not NONE", x.drawn(0), cats);
        // x: 12345 / 256 % 3 = 0: ann, of 2 stones, and so on; worked out by hand from the document.
        WidowRow y = on("widow a;stone 1 2 a;");
        long seed = 0;
        int expected = 0;
        int refused = 0;
        int gone = 0;
        int turned = 0;
        int x0 = (int) seed;
        boolean held = true;
        for (int day = 0; day < 50; day++) {
            x0 = x0 * 1103515245 + 12345;
            if (held) {
                x0 = x0 * 1103515245 + 12345;
                x0 = x0 * 1103515245 + 12345;
                expected++;
                held = false;
            }
            x0 = x0 * 1103515245 + 12345;
            if ((x0 >>> 8) % 8 == 0) {
                x0 = x0 * 1103515245 + 12345;
                gone += held ? 0 : 1;
                held = true;
            }
            x0 = x0 * 1103515245 + 12345;
            turned += (x0 >>> 8) % 4 == 0 && !held ? 1 : 0;
        }
        due("fifty days", y.days(50, (int) seed), expected);
        due("cats", y.drawn(0), gone);
        due("tides", y.drawn(1), turned);
        due("refused", y.drawn(2), refused);
    }

    // 43
    private static void sentence() {
        WidowRow x = on(ISLE);
        due("one", Due.sentence(x, "held"), 1);
        due("with a bracket and a not", Due.sentence(x, "not(held or laid)and pips>3"), 5);
        due("said", x.said(-1), 0);
        due("a fault", Due.sentence(x, "held or"), -8);
        due("its kind", x.fault(), 1);
        due("it stays", x.said(-1), 0);
        due("the tape is empty", x.count(7), 0);
        due("empty", Due.sentence(x, ""), -1);
        due("it stays", x.said(-1), 0);
    }

    // 44
    private static void said() {
        WidowRow x = on(ISLE);
        due("no sentence", x.said(-1), NONE);
        due("no sentence", x.said(0), NONE);
        x.lay(0, 0, 0);
        x.lay(1, 1, 1);
        x.pawn(3);
        String[] sentences = {"double", "laid", "held", "of bea", "fits", "pips = 6", "high > 5", "low < 1",
            "place = 2", "place < 1", "not laid", "laid or double", "not laid and held", "laid or held and of cil",
            "(laid or held) and of cil", "not(laid or held)", "not not double", "pips > 999", "place > 1",
            "pips=007", "high = 3 and low = 3", "held or laid and double", "double or not held and laid",
            "not laid or laid"};
        int[] want = {4, 3, 52, 18, 63, 4, 33, 24, 2, 60, 60, 7, 52, 39, 36, 8, 4, 0, 2, 32, 4, 52, 7, 63};
        for (int i = 0; i < sentences.length; i++) {
            Due.sentence(x, sentences[i]);
            due(sentences[i], bits(x), want[i]);
            due(sentences[i] + ": how many", x.said(-1), Integer.bitCount(want[i]));
        }
        due("none such", x.said(6), NONE);
        due("none such", x.said(-2), NONE);
        x.cat(0);
        x.cat(0);
        Due.sentence(x, "fits");
        due("no end", x.said(-1), 0);
    }

    private static int bits(WidowRow x) {
        int bits = 0;
        for (int k = 0; k < 28 && x.said(k) != NONE; k++) {
            bits |= 1 << x.said(k);
        }
        return bits;
    }

    // 45, 46
    private static void images() {
        WidowRow x = on(ISLE);
        due("image 2", x.image(2), false);
        due("image -1", x.image(-1), false);
        due("restore of nothing", x.restore(0), false);
        x.lay(0, 0, 0);
        x.lay(1, 1, 1);
        x.tide();
        x.pawn(2);
        Due.memory(x, "deal ann 6;");
        Due.sentence(x, "laid");
        due("image 0", x.image(0), true);
        due("the other place", x.restore(1), false);
        due("restore -1", x.restore(-1), false);
        due("restore 2", x.restore(2), false);
        due("a refused one changes nothing", x.undo(), 3);
        Due.island(x, "widow z;stone 1 1 z;");
        due("image 1", x.image(1), true);
        x.lay(0, 0, 0);
        x.longest();
        x.feed(0, 0, 0, 0, 0);
        due("restore 0", x.restore(0), true);
        due("row", text(x).equals("6 5 3 5"), true);
        due("visits", x.widow(1, 4) * 10 + x.widow(0, 5), 11);
        due("pawn", stone(x, 2, 3), 1);
        due("memory", x.dealings(), 1);
        due("sentence", x.said(-1), 2);
        due("island", x.count(1) * 10 + x.count(4), 64);
        due("the tape stays", x.count(7), 20);
        due("nothing can be undone", x.undo(), NONE);
        x.cat(0);
        due("again", x.restore(0), true);
        due("the image has not changed", x.count(5), 2);
        due("undo", x.undo(), NONE);
        due("restore 1", x.restore(1), true);
        due("no sentence", x.said(-1), NONE);
        due("no memory", x.count(6), 0);
        due("row", x.count(5), 0);
        due("image over another", x.image(0), true);
        due("restore", x.restore(0), true);
        due("it is the later one", x.count(1), 1);
    }

    // 47
    private static void counts() {
        WidowRow x = on("widow a;widow b;stone 1 2 a;forgive 6;forgive 0;quarrel 1 1;quarrel 2 3;pawn 17;");
        x.lay(0, 0, 0);
        Due.memory(x, "deal a 1;deal b 0;passed a 6;");
        x.feed(0, 0, 0, 0, 0);
        x.end(13);
        int[] want = {2, 1, 65, 2, 17, 1, 3, 13};
        for (int what = 0; what < 8; what++) {
            due("count " + what, x.count(what), want[what]);
        }
        due("count 8", x.count(8), NONE);
        due("count -1", x.count(-1), NONE);
    }

    /** The searches at their widest, as often as an object is used: they must not slow down. */
    private static void manyCalls() {
        WidowRow x = on("widow a;widow b;widow c;stone 0 1 a;stone 1 2 b;stone 2 3 c;stone 3 4 a;stone 4 5 b;"
                + "stone 5 6 c;stone 6 0 a;stone 0 2 b;stone 1 3 c;stone 2 4 a;stone 3 5 b;"
                + "forgive 0;forgive 1;forgive 2;forgive 3;forgive 4;forgive 5;forgive 6;");
        x.lay(0, 0, 0);
        for (int k = 0; k < 120; k++) {
            due("longest", x.longest(), 10);
            due("all", x.all(), 3);
            due("game", x.game(k % 3, (k + 1) % 3) != -2, true);
            due("leads", x.leads(0, 6), 0);
        }
    }
}
