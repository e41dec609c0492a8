import java.util.ArrayList;
import java.util.Collections;
import java.util.List;
import java.util.Random;

/** The edges of the searches, the dealings, the days and what may be said: promises 22 to 27, 30, 33 to 39, 44. */
public final class SearchEdgesTest {
    private static final int NONE = WidowRow.NONE;
    private static final int MIN = Integer.MIN_VALUE;
    private static final int MAX = Integer.MAX_VALUE;

    private SearchEdgesTest() {
    }

    public static void main(String[] args) {
        longestOfTwelve();
        longestOnAnEmptyRow();
        longestAtTheRightEnd();
        longestOfLikeOnes();
        longAt();
        leadsOfNoSuchPips();
        leadsOfTwelve();
        leads();
        allOfTen();
        allThatHaveOne();
        allAsLayAllows();
        allOfLikeOnes();
        allAtBothEnds();
        allOfTenStonesInAll();
        allAt();
        gameOfTen();
        gameOfNoSuchOnes();
        gameOverAtOnce();
        gameOfPips();
        gameOfPasses();
        gameMustLay();
        gameOfLikeOnes();
        gameOfHerBest();
        gameOfManyPasses();
        firstOfTheLatest();
        searchesAtTheirWidest();
        positionsThatLookAlike();
        dealingsOfNothing();
        dealingsNotAsMany();
        dealingsOfPassed();
        dealingsAtTheirMost();
        whose();
        sure();
        memoryOfTheIsland();
        daysOneTo200();
        daysDrawOnlyWhatIsThere();
        daysByHand();
        daysWrap();
        drawn();
        saidOfNothing();
        saidOfEach();
        saidBinds();
        saidMeasures();
        Due.finish("SearchEdgesTest");
    }

    private static void due(String call, long got, long want) {
        Due.due(call, got, want);
    }

    private static void due(String call, boolean got, boolean want) {
        Due.due(call, got, want);
    }

    private static int[] outside(int size) {
        return new int[] {MIN, MIN + 1, -256, -2, -1, size, size + 1, size + 256, MAX};
    }

    private static void path(String call, WidowRow x, int... want) {
        due(call + ": how many", x.longest(), want.length);
        for (int i = 0; i < want.length; i++) {
            due(call + ": longAt " + i, x.longAt(i), want[i]);
        }
        due(call + ": no more", x.longAt(want.length), NONE);
    }

    private static void round(String call, WidowRow x, int... want) {
        due(call + ": how many", x.all(), want.length);
        for (int i = 0; i < want.length; i++) {
            due(call + ": allAt " + i, x.allAt(i), want[i]);
        }
        due(call + ": no more", x.allAt(want.length), NONE);
    }

    private static void match(String call, WidowRow x, int a, int b, int won, int first) {
        due(call + ": game " + a + " " + b, x.game(a, b), won);
        due(call + ": first", x.first(), first);
    }

    // 22: NONE: more than 12 are in hands. At most 12 STONES in all hands
    private static void longestOfTwelve() {
        path("no stones at all", Due.on("widow a;"));
        for (int n = 11; n <= 14; n++) {
            WidowRow x = Due.on("widow a;widow b;" + Due.stones(n, "a", "b") + Due.allForgiven());
            due(n + " in hands", x.longest(), n <= 12 ? n : NONE);
            due(n + " in hands: longAt", x.longAt(n - 1), n <= 12 ? 2 * (n - 1) : NONE);
            x.lay(0, 0, 0);
            due(n - 1 + " in hands, one laid", x.longest(), n <= 13 ? n - 1 : NONE);
            x.pawn(1);
            due(n - 2 + " in hands, one in pawn", x.longest(), n - 2);
            due(n - 2 + " in hands, one in pawn: longAt", x.longAt(n - 3), 2 * (n - 1));
        }
        WidowRow most = Due.on("widow a;widow b;" + Due.stones(28, "a", "b") + Due.allForgiven());
        due("28 in hands", most.longest(), NONE);
        for (int s = 0; s < 15; s++) {
            most.lay(s % 2, s, 1);
        }
        due("13 of 28", most.longest(), NONE);
        most.lay(1, 15, 1);
        due("12 of 28", most.longest(), 12);
        for (int i = 0; i < 12; i++) {
            due("the last twelve", most.longAt(i), 2 * (16 + i));
        }
        most.cat(0);
        due("13 again", most.longest(), NONE);
    }

    // the first one on an empty ROW: any
    private static void longestOnAnEmptyRow() {
        path("one", Due.on("widow a;stone 0 0 a;"), 0);
        path("one that quarrels with itself", Due.on("widow a;stone 5 5 a;quarrel 5 5;"), 0);
        path("the first turned, for that is longer", Due.on("widow a;stone 1 2 a;stone 1 3 a;"), 1, 2);
        path("of all hands, whoever laid the one ahead", Due.on("widow a;widow b;stone 1 2 a;stone 2 3 a;stone 3 4 b;"),
                0, 2, 4);
        path("the lesser number, though turned", Due.on("widow a;stone 2 1 a;stone 3 1 a;"), 0, 3);
        WidowRow x = Due.on("widow a;stone 1 2 a;stone 2 3 a;stone 6 6 a;");
        x.lay(0, 2, 0);
        path("nothing behind 6", x);
        x.cat(0);
        path("empty again", x, 0, 2);
    }

    // one after another at the right END (each as told or turned, as it FITS)
    private static void longestAtTheRightEnd() {
        WidowRow x = Due.on("widow a;widow b;stone 1 2 a;stone 1 3 b;stone 3 4 b;stone 2 5 a;");
        x.lay(0, 0, 0);
        path("not at the left", x, 6);
        x.tide();
        path("the other pips are at the right", x, 2, 4);
        WidowRow q = Due.on("widow a;stone 1 2 a;stone 2 3 a;stone 0 3 a;stone 2 2 a;forgive 0;quarrel 2 2;quarrel 0 3;");
        q.lay(0, 0, 0);
        path("by 0, which is forgiven, then 3 on 3", q, 4, 3);
    }

    // of like ones the first (STONE by STONE the lesser number; of one STONE as told ahead of turned)
    private static void longestOfLikeOnes() {
        path("a double as told", Due.on("widow a;stone 1 1 a;"), 0);
        path("as told ahead of turned", Due.on("widow a;stone 1 2 a;stone 3 4 a;"), 0);
        WidowRow both = Due.on("widow a;stone 6 6 a;stone 0 5 a;stone 0 6 a;forgive 0;forgive 5;");
        both.lay(0, 0, 0);
        path("each as told", both, 2, 4);
        WidowRow late = Due.on("widow a;stone 6 6 a;stone 6 1 a;stone 6 2 a;stone 2 3 a;stone 1 4 a;");
        late.lay(0, 0, 0);
        path("the lesser number first", late, 2, 8);
        late.pawn(4);
        path("the longer ahead of the lesser", late, 4, 6);
    }

    // 23: of the latest longest() that was not NONE; NONE: there is none such, or ahead of any
    private static void longAt() {
        WidowRow x = Due.on("widow a;" + Due.stones(13, "a") + Due.allForgiven());
        due("ahead of any", x.longAt(0), NONE);
        due("thirteen", x.longest(), NONE);
        due("ahead of any that was not NONE", x.longAt(0), NONE);
        x.lay(0, 0, 0);
        due("twelve", x.longest(), 12);
        for (int i : outside(12)) {
            due("longAt " + i, x.longAt(i), NONE);
        }
        due("the last", x.longAt(11), 24);
        x.cat(0);
        due("thirteen", x.longest(), NONE);
        due("the latest stays", x.longAt(0) * 100 + x.longAt(11), 224);
        x.pawn(12);
        due("it stays till the next", x.longAt(11), 24);
        due("leads does not tell it", x.leads(0, 0) * 100 + x.longAt(11), 24);
        x.longest();
        due("the next", x.longAt(0) * 100 + x.longAt(11), 22);
        for (int s = 0; s < 12; s++) {
            x.pawn(s);
        }
        due("none in hands", x.longest(), 0);
        due("none such", x.longAt(0), NONE);
    }

    // 30: NONE: none do, more than 12 are in hands, no such pips
    private static void leadsOfNoSuchPips() {
        WidowRow x = Due.on("widow a;stone 1 2 a;");
        for (int n : outside(7)) {
            due("leads " + n + " 0", x.leads(n, 0), NONE);
            due("leads 6 " + n, x.leads(6, n), NONE);
            due("leads " + n, x.leads(n, n), NONE);
        }
        due("leads 0 0", x.leads(0, 0), 0);
        due("leads 6 6", x.leads(6, 6), 0);
    }

    private static void leadsOfTwelve() {
        for (int n = 11; n <= 14; n++) {
            WidowRow x = Due.on("widow a;" + Due.stones(n, "a"));
            due(n + " in hands", x.leads(1, 2), n <= 12 ? 1 : NONE);
            x.pawn(0);
            due(n - 1 + " in hands", x.leads(1, 2), n <= 13 ? 1 : NONE);
        }
        due("no stones", Due.on("widow a;").leads(1, 2) * 10 + Due.on("widow a;").leads(2, 2), -10);
        WidowRow chain = Due.on("widow a;stone 0 1 a;stone 2 1 a;stone 2 3 a;stone 4 3 a;stone 4 5 a;stone 6 5 a;");
        for (int m = 0; m < 7; m++) {
            due("a chain of stones: 0 to " + m, chain.leads(0, m), m);
            due("and back: " + m, chain.leads(m, 0), m);
        }
    }

    // laid one after another behind pips n, end in pips that FIT on m (0: n FIT on m)
    private static void leads() {
        WidowRow x = Due.on("widow a;widow b;stone 1 2 a;stone 3 4 b;stone 0 4 a;forgive 0;quarrel 0 1;quarrel 6 6;");
        due("0 fits on 5", x.leads(0, 5) * 10 + x.leads(5, 0), 0);
        due("0 quarrels with 1: none go from 0 by 1, but 4 is there", x.leads(0, 1), 1);
        due("1 to 0 by 2, which fits on 0", x.leads(1, 0), 1);
        due("6 quarrels with itself: 0 4 behind it turned fits by 0", x.leads(6, 6), NONE);
        due("6 to 4 by 0 4", x.leads(6, 4), 1);
        due("6 to 3: 0 4, 4 3", x.leads(6, 3), 2);
        due("by forgiven pips behind 4", x.leads(4, 6), 1);
        WidowRow once = Due.on("widow a;stone 1 2 a;stone 2 2 a;");
        due("no stone twice", once.leads(1, 1), 0);
        due("not by another's pips", once.leads(3, 1), NONE);
        WidowRow twice = Due.on("widow a;stone 1 2 a;quarrel 1 1;");
        due("behind 1 it can't lie", twice.leads(1, 2), NONE);
        due("behind 2 it leads to 1", twice.leads(2, 1), NONE);
        WidowRow row = Due.on("widow a;stone 1 2 a;stone 2 3 a;");
        row.lay(0, 0, 0);
        due("the row does not matter", row.leads(1, 2) + row.leads(2, 3) * 10, 9);
        row.pawn(1);
        due("none of those in pawn", row.leads(2, 3), NONE);
        WidowRow fewer = Due.on("widow a;stone 4 5 a;stone 2 6 a;stone 6 3 a;stone 2 3 a;");
        due("2 3 by itself", fewer.leads(2, 3), 1);
        fewer.pawn(3);
        due("2 6, 6 3 without it", fewer.leads(2, 3), 2);
        fewer.pawn(2);
        due("none do", fewer.leads(2, 3), NONE);
    }

    // 24: NONE: more than 10 are in hands
    private static void allOfTen() {
        for (int n = 9; n <= 12; n++) {
            WidowRow x = Due.on("widow a;widow b;" + Due.stones(n, "a", "b") + Due.allForgiven());
            due(n + " in hands", x.all(), n <= 10 ? 2 : NONE);
            due(n + " in hands: allAt", x.allAt(1), n <= 10 ? 2 : NONE);
            x.lay(0, 0, 0);
            due(n - 1 + " in hands, one laid", x.all(), n <= 11 ? 2 : NONE);
            x.pawn(1);
            due(n - 2 + " in hands, one in pawn", x.all(), 2);
        }
    }

    // each WIDOW with a STONE in hand has laid one of them
    private static void allThatHaveOne() {
        round("no widows", new WidowRow());
        round("no stones", Due.on("widow a;widow b;"));
        round("one", Due.on("widow a;stone 3 4 a;"), 0);
        WidowRow x = Due.on("widow a;widow b;widow c;stone 1 2 a;stone 2 3 b;stone 5 5 c;stone 3 1 a;");
        x.pawn(2);
        round("not her whose all are in pawn", x, 0, 3);
        x.lay(0, 0, 0);
        round("what was laid does not count: a again", x, 3, 7);
        x.will(0, 1);
        round("b alone now", x, 3);
        x.pawn(1);
        x.pawn(3);
        round("nobody", x);
        WidowRow six = Due.on("widow a;widow b;widow c;widow d;widow e;widow f;" + Due.allForgiven()
                + Due.stones(10, "a", "b", "c", "d", "e", "f"));
        round("all six", six, 0, 2, 4, 6, 8, 10);
        WidowRow ten = Due.on("widow a;widow b;widow c;stone 1 1 a;stone 1 2 b;stone 2 3 a;stone 3 4 b;stone 4 5 a;"
                + "stone 5 6 b;stone 6 0 a;stone 0 0 b;stone 6 6 c;");
        ten.lay(0, 0, 0);
        round("far on", ten, 2, 4, 6, 8, 10, 16);
    }

    // each as LAY allows; NONE: it can't be
    private static void allAsLayAllows() {
        WidowRow x = Due.on("widow a;widow b;stone 1 2 a;stone 2 3 a;");
        x.lay(0, 0, 0);
        due("she laid both ends", x.all(), NONE);
        x.undo();
        round("the first lies", x, 0);
        WidowRow y = Due.on("widow a;widow b;stone 1 2 a;stone 3 4 b;");
        due("they do not fit", y.all(), NONE);
        WidowRow turned = Due.on("widow a;widow b;widow c;stone 1 2 a;stone 3 1 b;stone 2 4 c;");
        round("at both ends", turned, 0, 2, 5);
        WidowRow forgiven = Due.on("widow a;widow b;widow c;stone 1 2 a;stone 0 5 b;stone 5 5 c;forgive 0;quarrel 5 5;");
        due("first pips to the row, so that 5 is outside", forgiven.all(), NONE);
    }

    // of like ones the first (one by one: 2 times the STONE's number, 1 more for the right END)
    private static void allOfLikeOnes() {
        WidowRow x = Due.on("widow a;widow b;stone 1 1 a;stone 1 2 b;stone 1 3 b;");
        round("the left ahead of the right", x, 0, 2);
        x.lay(0, 0, 0);
        round("the lesser number", x, 2);
        WidowRow right = Due.on("widow a;widow b;stone 4 1 a;stone 1 2 b;stone 4 3 b;");
        right.lay(0, 0, 0);
        round("the lesser number, though at the right", right, 3);
        WidowRow fewer = Due.on("widow a;widow b;widow c;stone 1 1 a;stone 1 2 b;stone 1 3 b;stone 3 3 c;stone 1 4 c;");
        round("the fewest ahead of the first", fewer, 0, 2, 9);
        fewer.lay(0, 0, 1);
        round("on from there", fewer, 2, 9);
        WidowRow later = Due.on("widow a;widow b;stone 2 5 b;stone 1 1 a;stone 1 2 b;");
        round("b's 2 5 first leaves a nothing but by 1 2", later, 2, 4);
    }

    // 2 of LAY at each END of a ROW whose ENDS were laid by two
    private static void allAtBothEnds() {
        String isle = "widow a;widow b;widow c;stone 1 2 a;stone 2 3 b;";
        WidowRow x = Due.on(isle + "stone 3 4 a;stone 1 5 b;");
        x.lay(0, 0, 0);
        x.lay(1, 1, 1);
        round("each on the other one's", x, 5, 6);
        WidowRow own = Due.on(isle + "stone 1 4 a;stone 3 5 b;");
        own.lay(0, 0, 0);
        own.lay(1, 1, 1);
        due("each on her own alone", own.all(), NONE);
        own.will(0, 2);
        due("the heir can, but b can't", own.all(), NONE);
        own.pawn(3);
        round("the heir alone", own, 4);
        WidowRow left = Due.on(isle + "stone 3 5 a;stone 5 6 c;stone 1 6 c;");
        left.lay(0, 0, 0);
        left.lay(1, 1, 1);
        round("a at the right, then c on a's at either end", left, 5, 7);
        left.pawn(3);
        round("c at the left only", left, 5, 8);
    }

    /** A round in which all ten are needed: the left end is dead, and nobody can lay twice at the right. */
    private static void allOfTenStonesInAll() {
        WidowRow x = Due.on("widow a;widow b;widow c;stone 0 1 a;stone 1 2 b;stone 2 2 a;stone 2 3 b;stone 3 3 a;"
                + "stone 3 4 b;stone 4 4 a;stone 4 5 b;stone 5 5 a;stone 5 6 b;stone 6 6 c;quarrel 0 0;");
        x.lay(0, 0, 0);
        round("ten", x, 3, 5, 7, 9, 11, 13, 15, 17, 19, 21);
        due("allAt 10", x.allAt(10), NONE);
        x.pawn(5);
        due("nine do not do it", x.all(), NONE);
        due("the latest stays", x.allAt(9), 21);
        x.will(2, 0);
        round("c has none any more", x, 3, 5);
    }

    // 25: by the latest all() that was not NONE; NONE: there is none such, or ahead of any
    private static void allAt() {
        WidowRow x = Due.on("widow a;widow b;" + Due.stones(11, "a", "b") + Due.allForgiven());
        due("ahead of any", x.allAt(0), NONE);
        due("eleven", x.all(), NONE);
        due("ahead of any that was not NONE", x.allAt(0), NONE);
        x.pawn(0);
        due("ten", x.all(), 2);
        due("b's first, then a's", x.allAt(0) * 10 + x.allAt(1), 24);
        for (int i : outside(2)) {
            due("allAt " + i, x.allAt(i), NONE);
        }
        x.redeem(0);
        due("eleven", x.all(), NONE);
        due("the latest stays", x.allAt(0) * 10 + x.allAt(1), 24);
        for (int s = 1; s < 11; s++) {
            x.pawn(s);
        }
        x.lay(0, 0, 0);
        x.redeem(2);
        due("it can't be", x.all(), NONE);
        due("the latest stays", x.allAt(0) * 10 + x.allAt(1), 24);
        x.pawn(2);
        due("none is in hands", x.all(), 0);
        due("none such", x.allAt(0), NONE);
    }

    // 26: At most 10 STONES in both hands; -2: not as told
    private static void gameOfTen() {
        for (int n = 9; n <= 12; n++) {
            WidowRow x = Due.on("widow a;widow b;widow c;stone 6 6 c;" + Due.stones(n, "a", "b") + "stone 5 6 c;"
                    + Due.allForgiven());
            due("the row is empty", x.game(0, 1), -2);
            x.lay(2, 0, 0);
            due(n + " in both hands", x.game(0, 1), n > 10 ? -2 : n % 2 == 0 ? 1 : -1);
            due(n + " in both hands: first", x.first(), n > 10 ? NONE : 2);
            x.pawn(1);
            due(n - 1 + " in both hands", x.game(0, 1), n > 11 ? -2 : 1);
        }
    }

    // -2: not as told, no such ones; the ROW not empty
    private static void gameOfNoSuchOnes() {
        WidowRow x = Due.on("widow a;widow b;widow c;stone 1 2 a;stone 2 3 b;stone 2 4 c;");
        due("the row is empty", x.game(0, 1), -2);
        due("and no first", x.first(), NONE);
        x.lay(0, 0, 0);
        for (int w : outside(3)) {
            due("game 0 " + w, x.game(0, w), -2);
            due("game of 0 with " + w, x.game(w, 0), -2);
            due("game " + w, x.game(w, w), -2);
        }
        for (int w = 0; w < 3; w++) {
            due("with herself", x.game(w, w), -2);
        }
        match("the last two", x, 2, 1, 1, 5);
        x.cat(0);
        due("empty again", x.game(2, 1), -2);
    }

    // Who has no STONE in hand (any more; at first a ahead of b) has won
    private static void gameOverAtOnce() {
        WidowRow x = Due.on("widow a;widow b;widow c;stone 1 2 c;stone 2 3 b;stone 2 4 c;stone 3 3 a;");
        x.lay(2, 0, 0);
        x.pawn(3);
        match("a has none", x, 0, 1, 1, NONE);
        match("b has none", x, 1, 0, -1, NONE);
        x.pawn(1);
        match("neither has: a", x, 0, 1, 1, NONE);
        match("neither has: b", x, 1, 0, 1, NONE);
        x.redeem(1);
        x.redeem(3);
        match("b lays her last", x, 1, 0, 1, 3);
        match("a can't, b lays her last", x, 0, 1, -1, NONE);
    }

    // if neither can lay, she with fewer pips in hand (alike: nobody)
    private static void gameOfPips() {
        WidowRow x = Due.on("widow a;widow b;widow c;stone 0 0 c;stone 1 2 a;stone 2 2 b;stone 1 3 a;stone 5 1 b;");
        x.lay(2, 0, 0);
        match("7 and 10", x, 0, 1, 1, NONE);
        match("10 and 7", x, 1, 0, -1, NONE);
        x.pawn(1);
        x.pawn(2);
        match("4 and 6", x, 0, 1, 1, NONE);
        x.redeem(2);
        x.redeem(1);
        x.pawn(4);
        match("7 and 4", x, 0, 1, -1, NONE);
        x.pawn(3);
        match("3 and 4", x, 0, 1, 1, NONE);
        x.pawn(1);
        x.redeem(3);
        match("4 and 4", x, 0, 1, 0, NONE);
        match("4 and 4, b begins", x, 1, 0, 0, NONE);
    }

    // who can't lay passes
    private static void gameOfPasses() {
        WidowRow x = Due.on("widow a;widow b;widow c;stone 1 1 c;stone 2 3 a;stone 1 2 b;stone 4 4 b;stone 5 5 a;");
        x.lay(2, 0, 0);
        x.pawn(4);
        match("a passes, b must lay 1 2, then a lays her last", x, 0, 1, 1, NONE);
        match("b must lay 1 2, a lays 2 3", x, 1, 0, -1, 4);
        x.redeem(4);
        x.pawn(1);
        match("a passes, b lays, a passes, b can't: 10 and 8", x, 0, 1, -1, NONE);
        x.pawn(3);
        x.redeem(1);
        match("b lays her last at once", x, 1, 0, 1, 4);
        match("a passes, b lays her last", x, 0, 1, -1, NONE);
    }

    // (else she must lay)
    private static void gameMustLay() {
        WidowRow x = Due.on("widow a;widow b;stone 1 1 a;stone 1 2 a;stone 6 6 a;stone 2 3 b;");
        x.lay(0, 0, 0);
        match("without 1 2 b could not lay, but a must", x, 0, 1, -1, 2);
    }

    // of like ones the first; (2 of LAY never mind); of like pips as above
    private static void gameOfLikeOnes() {
        WidowRow x = Due.on("widow a;widow b;stone 1 1 a;stone 1 2 a;stone 1 3 b;");
        x.lay(0, 0, 0);
        match("on her own, the left first", x, 0, 1, 1, 2);
        WidowRow y = Due.on("widow a;widow b;stone 2 1 a;stone 1 3 a;stone 5 5 b;");
        y.lay(0, 0, 0);
        match("at the right", y, 0, 1, 1, 3);
        WidowRow f = Due.on("widow a;widow b;stone 1 1 a;stone 0 5 a;stone 3 3 a;stone 5 2 b;stone 4 4 b;forgive 0;");
        f.lay(0, 0, 0);
        match("0 to the row, so that 5 is outside: b lays 5 2, and 6 is less than 8", f, 0, 1, 1, 2);
    }

    // Each does the best for herself (won, nobody, lost)
    private static void gameOfHerBest() {
        WidowRow more = Due.on("widow a;widow b;stone 0 0 a;stone 1 2 a;stone 6 6 b;quarrel 0 0;");
        more.lay(0, 0, 0);
        match("fewer pips, 3 and 12", more, 0, 1, 1, NONE);
        WidowRow count = Due.on("widow a;widow b;stone 0 0 a;stone 1 4 a;stone 1 1 b;stone 2 1 b;stone 1 3 b;quarrel 0 0;");
        count.lay(0, 0, 0);
        match("fewer pips, 5 and 9, of fewer stones", count, 0, 1, 1, NONE);
        count.pawn(4);
        match("5 and 5, one and two stones", count, 0, 1, 0, NONE);
        count.pawn(3);
        match("5 and 2", count, 0, 1, -1, NONE);
        WidowRow lost = Due.on("widow a;widow b;stone 0 1 a;stone 1 2 a;stone 1 3 a;stone 5 5 a;stone 4 6 b;"
                + "quarrel 0 0;");
        lost.lay(0, 0, 0);
        match("12 or 13 against 10: both lose, the first of like ones", lost, 0, 1, -1, 3);
        WidowRow draw = Due.on("widow a;widow b;stone 0 1 a;stone 1 2 a;stone 1 3 a;stone 4 5 a;stone 6 6 b;"
                + "quarrel 0 0;");
        draw.lay(0, 0, 0);
        match("1 2 leaves 13, 1 3 leaves 12, as many as b has", draw, 0, 1, 0, 5);
        match("b passes, then a does her best", draw, 1, 0, 0, NONE);
        draw.pawn(2);
        match("1 2 leaves 9", draw, 0, 1, 1, 3);
        match("b passes, then a wins", draw, 1, 0, -1, NONE);
    }

    private static String drawnIsle(Random draws, int widows, int stones, int forgiven) {
        List<String> pairs = new ArrayList<>();
        for (int a = 0; a < 7; a++) {
            for (int b = a; b < 7; b++) {
                pairs.add(draws.nextBoolean() ? a + " " + b : b + " " + a);
            }
        }
        StringBuilder all = new StringBuilder();
        for (int w = 0; w < widows; w++) {
            all.append("widow ").append((char) ('a' + w)).append(";");
        }
        Collections.shuffle(pairs, draws);
        for (int s = 0; s < stones; s++) {
            all.append("stone ").append(pairs.get(s)).append(" ").append((char) ('a' + s % widows)).append(";");
        }
        for (int n = 0; n < forgiven; n++) {
            all.append("forgive ").append(2 * n).append(";");
        }
        return all.append("quarrel ").append(pairs.get(0)).append(";quarrel ").append(pairs.get(27)).append(";").toString();
    }

    /** Drawn islands with as many stones as each search takes, held against SlowRow, and each object asked often. */
    private static void searchesAtTheirWidest() {
        Random draws = new Random(20261119);
        for (int k = 0; k < 60; k++) {
            int stones = 10 + k % 4;
            String isle = drawnIsle(draws, 2 + draws.nextInt(4), stones, draws.nextInt(3));
            SlowRow slow = new SlowRow();
            WidowRow x = Due.on(isle);
            slow.island(isle);
            askAll(isle + " empty", x, slow);
            for (int s = 10; s < stones; s++) {
                x.pawn(s);
                slow.pawn(s);
            }
            askAll(isle + " ten in hands", x, slow);
            int first = draws.nextInt(10);
            for (int step = 0; step < 4; step++) {
                int s = step == 0 ? first : layable(slow, first);
                x.lay(slow.stone(s, 2), s, step % 2);
                slow.lay(slow.stone(s, 2), s, step % 2);
                if (10 + step < stones) {
                    x.redeem(10 + step);
                    slow.redeem(10 + step);
                }
                askAll(isle + " step " + step, x, slow);
            }
        }
    }

    /** A stone that can be laid at one of the ends, behind the one told; that one, if there is none. */
    private static int layable(SlowRow slow, int from) {
        for (int i = 1; i <= 10; i++) {
            int s = (from + i) % 10;
            if (slow.why(slow.stone(s, 2), s, 0) == 0 || slow.why(slow.stone(s, 2), s, 1) == 0) {
                return s;
            }
        }
        return from;
    }

    private static void askAll(String isle, WidowRow x, SlowRow slow) {
        due(isle + ": longest", x.longest(), slow.longest());
        due(isle + ": all", x.all(), slow.all());
        for (int i = 0; i < 12; i++) {
            due(isle + ": longAt " + i, x.longAt(i), slow.longAt(i));
            due(isle + ": allAt " + i, x.allAt(i), slow.allAt(i));
        }
        for (int w = 0; w < 4; w++) {
            due(isle + ": game " + w, x.game(w % 2, 1 - w % 2 + w / 2), slow.game(w % 2, 1 - w % 2 + w / 2));
            due(isle + ": first", x.first(), slow.first());
        }
        for (int n = 0; n < 7; n++) {
            due(isle + ": leads " + n, x.leads(n, 6 - n), slow.leads(n, 6 - n));
        }
        due(isle + ": greedy", x.greedy(), slow.greedy());
    }

    /** The longest game there can be: b passes each time, and a has lost, if she does not lay all of her nine. */
    private static void gameOfManyPasses() {
        WidowRow x = Due.on("widow a;widow b;stone 0 1 a;stone 1 1 a;stone 1 2 a;stone 2 2 a;stone 2 3 a;stone 3 3 a;"
                + "stone 3 4 a;stone 4 4 a;stone 4 5 a;stone 5 5 a;stone 0 0 b;quarrel 0 0;");
        x.lay(0, 0, 0);
        match("a lays nine", x, 0, 1, 1, 3);
        match("b passes nine times", x, 1, 0, -1, NONE);
    }

    // drawn islands on which a search that takes one position for another one answers otherwise
    private static final String[] ALIKE_FOR_ALL = {
        "stone 0 4 b;stone 1 5 b;stone 4 2 b;stone 1 4 a;stone 3 2 b;stone 4 3 b;stone 0 2 b;stone 1 3 b;stone 5 6 b;"
            + "stone 6 6 c;stone 0 6 c;forgive 0;quarrel 4 1;quarrel 6 3;",
        "stone 0 5 b;stone 1 3 a;stone 0 3 a;stone 1 0 b;stone 4 5 a;stone 3 4 b;stone 5 1 b;stone 0 2 b;stone 5 6 b;"
            + "stone 6 6 c;stone 0 6 c;forgive 0;quarrel 3 0;quarrel 2 2;quarrel 3 3;",
        "stone 3 0 a;stone 3 1 a;stone 0 2 b;stone 1 2 a;stone 3 2 b;stone 4 2 b;stone 5 3 a;stone 0 1 b;stone 5 6 a;"
            + "stone 6 6 c;stone 0 6 c;forgive 0;quarrel 5 5;quarrel 2 0;",
        "stone 3 1 a;stone 5 4 b;stone 3 4 a;stone 3 2 a;stone 5 1 a;stone 0 3 b;stone 2 0 a;stone 1 4 a;stone 5 6 a;"
            + "stone 6 6 c;stone 0 6 c;forgive 0;quarrel 5 2;",
        "stone 3 5 b;stone 4 0 a;stone 1 3 b;stone 4 1 b;stone 0 2 b;stone 2 1 a;stone 4 5 a;stone 5 1 b;stone 5 6 b;"
            + "stone 6 6 c;stone 0 6 c;forgive 0;quarrel 3 1;",
        "stone 1 5 a;stone 5 2 a;stone 1 3 b;stone 0 2 b;stone 5 4 b;stone 2 1 a;stone 0 4 a;stone 1 0 b;stone 5 6 a;"
            + "stone 6 6 c;stone 0 6 c;forgive 0;"};
    private static final String[] ALIKE_FOR_GAME = {
        "stone 0 1 a;stone 3 0 a;stone 5 4 a;stone 2 0 a;stone 0 5 a;stone 1 5 a;stone 2 1 b;stone 5 3 b;stone 2 3 b;"
            + "stone 3 1 b;stone 6 6 c;forgive 0;quarrel 2 4;quarrel 2 2;",
        "stone 1 4 a;stone 3 4 a;stone 1 0 a;stone 5 4 a;stone 3 1 a;stone 1 2 b;stone 3 5 b;stone 1 5 b;stone 0 4 b;"
            + "stone 3 0 b;stone 6 6 c;forgive 0;",
        "stone 3 1 a;stone 1 2 a;stone 3 2 a;stone 0 1 a;stone 0 3 a;stone 2 4 b;stone 5 1 b;stone 5 2 b;stone 4 3 b;"
            + "stone 3 5 b;stone 6 6 c;forgive 0;quarrel 5 6;quarrel 5 4;quarrel 3 0;",
        "stone 2 5 a;stone 1 2 a;stone 5 0 a;stone 3 2 a;stone 5 4 b;stone 0 3 b;stone 0 4 b;stone 5 3 b;stone 1 4 b;"
            + "stone 0 2 b;stone 6 6 c;forgive 0;quarrel 5 1;",
        "stone 4 1 a;stone 1 3 a;stone 2 5 a;stone 0 5 a;stone 0 1 a;stone 5 3 b;stone 3 4 b;stone 4 2 b;stone 0 3 b;"
            + "stone 4 5 b;stone 6 6 c;forgive 0;forgive 1;quarrel 5 6;quarrel 1 6;",
        "stone 5 3 a;stone 5 0 a;stone 4 3 a;stone 2 4 a;stone 1 2 a;stone 0 2 b;stone 3 0 b;stone 1 5 b;stone 3 2 b;"
            + "stone 4 1 b;stone 6 6 c;forgive 0;forgive 1;"};

    private static void positionsThatLookAlike() {
        for (String stones : ALIKE_FOR_ALL) {
            for (int first = 0; first < 9; first++) {
                SlowRow slow = new SlowRow();
                slow.island("widow a;widow b;widow c;" + stones);
                WidowRow x = Due.on("widow a;widow b;widow c;" + stones);
                x.pawn(10);
                slow.pawn(10);
                due("all of an empty row", x.all(), slow.all());
                x.lay(slow.stone(first, 2), first, 0);
                slow.lay(slow.stone(first, 2), first, 0);
                due("all behind " + first, x.all(), slow.all());
                for (int i = 0; i < 10; i++) {
                    due("all behind " + first + ": allAt " + i, x.allAt(i), slow.allAt(i));
                }
            }
        }
        for (String stones : ALIKE_FOR_GAME) {
            SlowRow slow = new SlowRow();
            slow.island("widow a;widow b;widow c;" + stones);
            WidowRow x = Due.on("widow a;widow b;widow c;" + stones);
            x.lay(2, 10, 0);
            slow.lay(2, 10, 0);
            for (int w = 0; w < 2; w++) {
                due("game of " + w, x.game(w, 1 - w), slow.game(w, 1 - w));
                due("first of " + w, x.first(), slow.first());
            }
            for (int first = 0; first < 10; first++) {
                SlowRow there = new SlowRow();
                there.island("widow a;widow b;widow c;" + stones);
                WidowRow y = Due.on("widow a;widow b;widow c;" + stones);
                y.lay(there.stone(first, 2), first, 0);
                there.lay(there.stone(first, 2), first, 0);
                for (int w = 0; w < 2; w++) {
                    due("game behind " + first, y.game(w, 1 - w), there.game(w, 1 - w));
                    due("first behind " + first, y.first(), there.first());
                }
            }
        }
    }

    // 27: by the latest game() that was not -2; NONE: she passes, it is over at once, or ahead of any
    private static void firstOfTheLatest() {
        WidowRow x = Due.on("widow a;widow b;widow c;stone 1 1 a;stone 1 2 a;stone 1 3 b;stone 6 6 c;");
        due("ahead of any", x.first(), NONE);
        x.game(0, 1);
        due("ahead of any that was not -2", x.first(), NONE);
        x.lay(0, 0, 0);
        match("a lays", x, 0, 1, 1, 2);
        due("with herself", x.game(0, 0), -2);
        due("the latest stays", x.first(), 2);
        due("with nobody", x.game(0, 3), -2);
        due("the latest stays", x.first(), 2);
        match("c passes", x, 2, 1, -1, NONE);
        match("b lays", x, 1, 2, 1, 4);
        x.pawn(2);
        due("it stays till the next", x.first(), 4);
        match("b has none", x, 1, 2, 1, NONE);
        match("a lays", x, 0, 2, 1, 2);
        match("over at once", x, 0, 1, -1, NONE);
        match("a lays", x, 0, 2, 1, 2);
        x.cat(0);
        due("the row is empty", x.game(1, 2), -2);
        due("the latest stays", x.first(), 2);
    }

    // 35: DEALINGS by a MEMORY: ways in which all STONES that are not seen are dealt
    private static void dealingsOfNothing() {
        due("no stones, no widows", new WidowRow().dealings(), 1);
        WidowRow x = Due.on("widow a;widow b;stone 1 2 a;stone 1 3 b;");
        due("no memory: none are dealt", x.dealings(), 0);
        Due.memory(x, "");
        due("an empty one", x.dealings(), 0);
        Due.memory(x, "seen 1 2;seen 1 3;");
        due("all are seen", x.dealings(), 1);
        due("nothing is anybody's", x.whose(0, 0) + x.whose(1, 1) + x.sure(0) + x.sure(1), 0);
        Due.memory(x, "seen 1 2;seen 1 3;deal a 0;deal b 0;passed a 1;");
        due("0 for each", x.dealings(), 1);
        Due.memory(x, "seen 1 2;seen 1 3;deal a 1;");
        due("1 of none", x.dealings(), 0);
        due("no stones, but widows", Due.on("widow a;").dealings(), 1);
    }

    // none, if these are not as many together
    private static void dealingsNotAsMany() {
        WidowRow x = Due.on("widow a;widow b;" + Due.stones(14, "a"));
        long[] want = {0, 3432, 0};
        for (int n = 6; n <= 7; n++) {
            Due.memory(x, "deal a 7;deal b " + n + ";");
            due("7 and " + n + " of 14", x.dealings(), n == 7 ? want[1] : 0);
            due("whose", x.whose(0, 0), n == 7 ? 1716 : 0);
        }
        Due.memory(x, "deal a 7;deal b 7;seen 0 0;");
        due("14 of 13", x.dealings(), 0);
        due("whose", x.whose(1, 0), 0);
        due("sure", x.sure(0), 0);
        Due.memory(x, "deal a 7;deal b 6;seen 0 0;");
        due("13 of 13", x.dealings(), 1716);
        WidowRow y = Due.on("widow a;widow b;widow c;widow d;widow e;widow f;stone 0 0 a;");
        Due.memory(y, "deal a 7;deal b 7;deal c 7;deal d 7;deal e 7;deal f 7;");
        due("42 of one", y.dealings() + y.whose(0, 0) + y.sure(0), 0);
        Due.memory(y, "deal f 1;");
        due("one of one", y.dealings() * 100 + y.whose(0, 5) * 10 + y.sure(5), 111);
        due("not a's", y.whose(0, 0) + y.sure(0), 0);
        WidowRow z = Due.on("widow a;" + Due.stones(8, "a"));
        Due.memory(z, "deal a 7;");
        due("7 of 8", z.dealings(), 0);
        Due.memory(z, "deal a 7;seen 0 3;");
        due("7 of 7", z.dealings() * 1000 + z.sure(0), 1000 + 255 - 8);
    }

    // none with pips that she passed
    private static void dealingsOfPassed() {
        WidowRow y = Due.on("widow a;widow b;stone 0 6 a;stone 5 5 a;stone 1 2 a;");
        Due.memory(y, "deal a 2;deal b 1;");
        due("three", y.dealings(), 3);
        for (int n = 0; n < 7; n++) {
            Due.memory(y, "deal a 2;deal b 1;passed b " + n + ";");
            due("b passed " + n, y.dealings(), n == 3 || n == 4 ? 3 : 2);
            Due.memory(y, "deal a 2;deal b 1;passed a " + n + ";");
            due("a passed " + n, y.dealings(), n == 3 || n == 4 ? 3 : 1);
        }
        Due.memory(y, "deal a 2;deal b 1;passed b 6;passed b 5;passed b 1;");
        due("b can have none", y.dealings(), 0);
        Due.memory(y, "deal a 3;passed b 6;passed b 5;passed b 1;");
        due("she needs none", y.dealings(), 1);
        Due.memory(y, "deal a 2;deal b 1;passed a 0;passed b 6;");
        due("nobody can have 0 6", y.dealings(), 0);
        Due.memory(y, "deal a 2;deal b 0;passed a 0;passed b 6;seen 6 0;");
        due("it is seen", y.dealings(), 1);
    }

    private static void dealingsAtTheirMost() {
        WidowRow x = Due.on("widow a;widow b;widow c;widow d;widow e;widow f;" + Due.stones(28, "a"));
        Due.memory(x, "deal a 4;deal b 4;deal c 5;deal d 5;deal e 5;deal f 5;");
        due("28! / (4!^2 5!^4)", x.dealings(), 2552662243097366400L);
        due("one of f's five", x.whose(0, 5), 2552662243097366400L / 28 * 5);
        due("one of a's four", x.whose(27, 0), 2552662243097366400L / 28 * 4);
        Due.memory(x, "deal a 7;deal b 7;deal c 7;deal d 7;");
        due("28! / 7!^4", x.dealings(), 472518347558400L);
        due("a quarter", x.whose(13, 3), 472518347558400L / 4);
        due("none of e's", x.whose(13, 4), 0);
        Due.memory(x, "deal a 7;deal b 7;deal c 7;deal f 7;passed a 0;passed b 0;passed c 0;");
        due("f has all with 0", x.sure(5), 127);
        due("21! / 7!^3", x.dealings(), 399072960);
        due("whose", x.whose(6, 5), 399072960);
    }

    // 36: In how many of them STONE s is WIDOW w's; NONE: no such ones
    private static void whose() {
        WidowRow x = Due.on("widow a;widow b;stone 0 6 a;stone 5 5 a;stone 1 2 a;");
        Due.memory(x, "deal a 2;deal b 1;passed b 5;");
        for (int s : outside(3)) {
            due("whose " + s, x.whose(s, 0), NONE);
        }
        for (int w : outside(2)) {
            due("whose 0 " + w, x.whose(0, w), NONE);
            due("whose 3 " + w, x.whose(3, w), NONE);
        }
        long[][] want = {{1, 1}, {2, 0}, {1, 1}};
        for (int s = 0; s < 3; s++) {
            for (int w = 0; w < 2; w++) {
                due("whose " + s + " " + w, x.whose(s, w), want[s][w]);
            }
        }
        Due.memory(x, "deal a 2;deal b 0;seen 2 1;");
        due("seen: in none", x.whose(2, 0) + x.whose(2, 1), 0);
        due("not seen", x.whose(0, 0) * 10 + x.whose(1, 0), 11);
        Due.memory(x, "deal a 2;");
        due("no dealings", x.whose(0, 0), 0);
        due("no stones", Due.on("widow a;").whose(0, 0), NONE);
        due("no widows", new WidowRow().whose(0, 0), NONE);
    }

    // 37: STONES that WIDOW w has in all DEALINGS, as bits (0: there are none); NONE: no such one
    private static void sure() {
        WidowRow x = Due.on("widow a;widow b;stone 0 6 a;stone 5 5 a;stone 1 2 a;");
        for (int w : outside(2)) {
            due("sure " + w, x.sure(w), NONE);
        }
        Due.memory(x, "deal a 2;deal b 1;passed b 5;");
        due("5 5 is a's", x.sure(0) * 10 + x.sure(1), 20);
        Due.memory(x, "deal a 3;");
        due("all", x.sure(0) * 10 + x.sure(1), 70);
        Due.memory(x, "deal b 3;");
        due("all b's", x.sure(0) * 10 + x.sure(1), 7);
        Due.memory(x, "deal a 2;deal b 1;");
        due("nothing", x.sure(0) * 10 + x.sure(1), 0);
        Due.memory(x, "deal a 2;deal b 1;passed a 5;passed a 1;");
        due("no dealings", x.sure(0) * 10 + x.sure(1), 0);
        Due.memory(x, "deal a 2;deal b 1;passed a 5;");
        due("b has 5 5, so that a has the others", x.sure(0) * 10 + x.sure(1), 52);
        Due.memory(x, "deal a 1;deal b 1;seen 5 5;passed a 6;");
        due("not the seen one", x.sure(0) * 10 + x.sure(1), 41);
        WidowRow full = Due.on("widow a;widow b;widow c;widow d;" + Due.stones(28, "a"));
        Due.memory(full, "deal a 7;deal b 7;deal c 7;deal d 7;passed a 6;passed b 6;passed c 6;");
        due("the last stone, too", full.sure(3), 1 << 6 | 1 << 12 | 1 << 17 | 1 << 21 | 1 << 24 | 1 << 26 | 1 << 27);
    }

    // 34: The tape is the MEMORY now: how many LINES
    private static void memoryOfTheIsland() {
        WidowRow x = Due.on("widow a;widow b;stone 1 2 a;stone 1 3 b;");
        due("none yet", x.count(6), 0);
        due("two lines", Due.memory(x, "deal a 1;deal b 1;"), 2);
        due("count", x.count(6) * 10 + x.dealings(), 22);
        due("no lines", x.memory(), 0);
        due("count", x.count(6) * 10 + x.dealings(), 0);
        due("three lines", Due.memory(x, "seen 1 2;deal b 1;passed b 2;"), 3);
        due("what another told is gone", x.dealings() * 10 + x.sure(1), 12);
        x.lay(0, 0, 0);
        x.will(1, 0);
        x.pawn(1);
        due("row, hands and pawns do not matter", x.dealings() * 10 + x.sure(1), 12);
        due("nor does its own undo", x.undo() * 100 + x.count(6) * 10 + x.sure(1), 232);
    }

    // 38: DRAWN DAYS (1 to 200); NONE: not as told, no WIDOWS
    private static void daysOneTo200() {
        for (int n : new int[] {MIN, -200, -1, 0, 201, 202, 400, MAX}) {
            WidowRow x = Due.on("widow a;widow b;" + Due.stones(6, "a", "b") + Due.allForgiven());
            due("days " + n, x.days(n, 5), NONE);
            due("nothing is drawn", x.drawn(0) + x.drawn(1) + x.drawn(2), -3);
            due("nothing is done", x.undo() + x.count(5), -1);
            due("no widows: " + n, new WidowRow().days(n, 5), NONE);
        }
        due("no widows", new WidowRow().days(1, 5), NONE);
        due("no widows", new WidowRow().days(200, 5), NONE);
        WidowRow one = Due.on("widow a;stone 1 2 a;");
        due("one day, one stone", one.days(1, 0), 1);
        due("undo it", one.undo() + one.count(5), 0);
        WidowRow none = Due.on("widow a;");
        due("no stones", none.days(200, MIN), 0);
        due("nothing drawn but days", none.drawn(0) + none.drawn(1) + none.drawn(2), 0);
        due("they were done all the same", none.undo(), 0);
        SlowRow slow = new SlowRow();
        String isle = "widow a;widow b;widow c;" + Due.stones(14, "a", "b", "c") + "forgive 1;";
        WidowRow x = Due.on(isle);
        slow.island(isle);
        for (int seed : new int[] {0, 1, -1, MAX, MIN, 12345, -987654321}) {
            for (int n : new int[] {1, 2, 199, 200}) {
                due("days " + n + " " + seed, x.days(n, seed), slow.days(n, seed));
                for (int what = 0; what < 3; what++) {
                    due("drawn " + what, x.drawn(what), slow.drawn(what));
                }
                due("row", x.count(5) * 10000 + x.pips(0) * 100 + x.pips(1),
                        slow.count(5) * 10000 + slow.pips(0) * 100 + slow.pips(1));
            }
        }
    }

    /** The next x of DRAWN, and what of n it draws. */
    private static int next(int x) {
        return (int) (x * 1103515245L + 12345L);
    }

    private static int draw(int x, int n) {
        return (int) ((x & 0xffffffffL) / 256 % n);
    }

    // if she has some in hand, of these, and of 2; a draw of 8: 0: a draw of 2; then a draw of 4
    private static void daysDrawOnlyWhatIsThere() {
        for (int seed = -40; seed < 40; seed++) {
            WidowRow x = Due.on("widow a;widow b;stone 1 2 b;stone 3 3 b;quarrel 3 3;");
            int t = next(seed);
            int w = draw(t, 2);
            int s = 0;
            int end = 0;
            if (w == 1) {
                t = next(t);
                s = draw(t, 2);
                t = next(t);
            }
            t = next(t);
            int cats = 0;
            if (draw(t, 8) == 0) {
                t = next(t);
                cats = w;
            }
            t = next(t);
            int tides = draw(t, 4) == 0 && w == 1 && cats == 0 ? 1 : 0;
            due("a day of " + seed, x.days(1, seed), w);
            due("cats", x.drawn(0), cats);
            due("tides", x.drawn(1), tides);
            due("refused", x.drawn(2), end);
            due("row", x.at(0), w == 1 && cats == 0 ? s : NONE);
            due("pips", x.pips(0), w == 0 || cats == 1 ? NONE : s == 1 ? 3 : 1 + tides);
        }
    }

    // by numbers; (the END): it is laid, if it can be; a CAT at that END
    private static void daysByHand() {
        int cats = 0;
        int tides = 0;
        int refused = 0;
        for (int seed = 0; seed < 120; seed++) {
            WidowRow x = Due.on("widow a;widow b;" + Due.allForgiven() + "stone 1 2 a;stone 3 4 b;stone 5 6 b;stone 1 1 b;");
            x.lay(0, 0, 0);
            x.pawn(1);
            int t = next(seed);
            int w = draw(t, 2);
            int[] row = {0, NONE};
            if (w == 1) {
                t = next(t);
                int s = 2 + draw(t, 2);
                t = next(t);
                row = draw(t, 2) == 0 ? new int[] {s, 0} : new int[] {0, s};
            }
            int size = 1 + w;
            t = next(t);
            int cat = draw(t, 8) == 0 ? 1 : 0;
            if (cat == 1) {
                t = next(t);
                if (draw(t, 2) == 0) {
                    row[0] = row[1];
                }
                size--;
            }
            t = next(t);
            int tide = draw(t, 4) == 0 && size > 0 ? 1 : 0;
            due("seed " + seed, x.days(1, seed), w);
            due("cats", x.drawn(0), cat);
            due("tides", x.drawn(1), tide);
            due("row", x.count(5) * 100 + x.at(0) * 10 + x.at(1),
                    size * 100 + (size > 0 ? row[0] : NONE) * 10 + (size > 1 ? row[1] : NONE));
            cats += cat;
            tides += tide;
            // a is alone: both ends are her own
            WidowRow y = Due.on("widow a;stone 1 2 a;stone 1 1 a;");
            y.lay(0, 0, 0);
            due("refused: " + seed, y.days(1, seed) * 10 + y.drawn(2), 1);
            refused += y.drawn(2);
        }
        due("some of each", cats > 3 && tides > 10 && refused == 120, true);
    }

    // (an int, wrapping), the draw is (x >>> 8) % n
    private static void daysWrap() {
        String isle = "widow a;widow b;widow c;stone 1 2 a;stone 3 4 b;stone 5 6 c;";
        int[] seeds = {0, 1, -1, MAX, MIN, 255, 256, 1 << 30, -(1 << 30), 0x7fffff00, 0x12345678, -12345};
        for (int seed : seeds) {
            WidowRow x = Due.on(isle);
            x.days(1, seed);
            int t = next(seed);
            int w = draw(t, 3);
            int cat = draw(next(next(next(t))), 8) == 0 ? 1 : 0;
            due("of three widows by " + seed, x.at(0), cat == 1 ? NONE : w);
            due("cat by " + seed, x.drawn(0), cat);
        }
    }

    // 39: Of the latest days() that was not NONE; NONE: another what, or ahead of any
    private static void drawn() {
        WidowRow x = Due.on("widow a;widow b;" + Due.stones(10, "a", "b") + Due.allForgiven());
        for (int what = -1; what <= 3; what++) {
            due("ahead of any: " + what, x.drawn(what), NONE);
        }
        x.days(0, 1);
        due("ahead of any that was not NONE", x.drawn(0), NONE);
        int laid = x.days(200, 99);
        int cats = x.drawn(0);
        int tides = x.drawn(1);
        int refused = x.drawn(2);
        due("stones laid less cats", x.count(5), laid - cats);
        due("of 200 days", cats > 0 && tides > 0 && refused > 0 && cats < 60 && tides < 90, true);
        for (int what : outside(3)) {
            due("drawn " + what, x.drawn(what), NONE);
        }
        due("201", x.days(201, 1), NONE);
        due("the latest stays", x.drawn(0) == cats && x.drawn(1) == tides && x.drawn(2) == refused, true);
        x.undo();
        due("undone, it stays", x.drawn(0) == cats && x.drawn(1) == tides && x.drawn(2) == refused, true);
        for (int s = 0; s < 10; s++) {
            x.pawn(s);
        }
        due("nothing in hands", x.days(200, 3), 0);
        due("not added to those before", x.drawn(0) + x.drawn(1) + x.drawn(2), 0);
    }

    // 44: how many (k NONE), or the k-th one's number. NONE: there is no SENTENCE, none such
    private static void saidOfNothing() {
        WidowRow x = Due.on("widow a;widow b;stone 1 2 a;stone 3 3 b;stone 0 6 a;");
        for (int k = -2; k <= 3; k++) {
            due("no sentence: said " + k, x.said(k), NONE);
        }
        Due.sentence(x, "laid");
        due("of none", x.said(NONE) * 10 + x.said(0), -1);
        Due.sentence(x, "held");
        due("of all", x.said(NONE) * 1000 + x.said(0) * 100 + x.said(1) * 10 + x.said(2), 3012);
        for (int k : new int[] {MIN, -3, -2, 3, 4, 28, MAX}) {
            due("said " + k, x.said(k), NONE);
        }
        x.sentence();
        due("a fault: it stays", x.said(NONE), 3);
        WidowRow none = new WidowRow();
        Due.sentence(none, "held or not held");
        due("of no stones", none.said(NONE) * 10 + none.said(0), -1);
        WidowRow full = Due.on("widow a;" + Due.stones(28, "a"));
        Due.sentence(full, "not laid");
        due("of 28", full.said(NONE) * 1000 + full.said(27), 28027);
        due("of no 29th", full.said(28), NONE);
    }

    private static void said(WidowRow x, String sentence, int... want) {
        due("sentence " + sentence, Due.sentence(x, sentence) > 0, true);
        due("said of " + sentence, x.said(NONE), want.length);
        for (int k = 0; k < want.length; k++) {
            due("said of " + sentence + ": " + k, x.said(k), want[k]);
        }
        due("said of " + sentence + ": no more", x.said(want.length), NONE);
    }

    // 'double' | 'laid' | 'held' (in a hand) | 'of' WIDOW | 'fits' (one of its pips FITS an END of the ROW)
    private static void saidOfEach() {
        WidowRow x = Due.on("widow a;widow b;widow c;stone 1 2 a;stone 3 3 b;stone 2 6 b;stone 4 1 a;stone 5 0 b;"
                + "stone 1 1 a;quarrel 6 6;");
        said(x, "fits");
        said(x, "laid");
        x.lay(0, 0, 0);
        said(x, "fits", 0, 2, 3, 5);
        x.lay(1, 2, 1);
        x.pawn(3);
        said(x, "double", 1, 5);
        said(x, "laid", 0, 2);
        said(x, "held", 1, 4, 5);
        said(x, "not held", 0, 2, 3);
        said(x, "not laid and not held", 3);
        said(x, "of a", 0, 3, 5);
        said(x, "of b", 1, 2, 4);
        said(x, "of c");
        // the row is 1 2 2 6: laid ones and those in pawn, too; 6 quarrels with itself
        said(x, "fits", 0, 3, 5);
        x.tide();
        said(x, "fits", 0, 2, 3, 5);
        x.will(0, 2);
        said(x, "of c", 3, 5);
        said(x, "of a", 0);
        x.cat(0);
        due("it is said of the row as it is", Due.sentence(x, "laid") + x.said(0), 3);
        x.cat(0);
        due("of an empty row", x.said(NONE), 0);
    }

    // COND: ALL { 'or' ALL }. ALL: ONE { 'and' ONE }. ONE: 'not' ONE
    private static void saidBinds() {
        WidowRow x = Due.on("widow a;widow b;stone 1 1 a;stone 1 2 a;stone 2 2 b;stone 2 3 b;");
        said(x, "double or of a and of b", 0, 2);
        said(x, "(double or of a)and of b", 2);
        said(x, "of b and of a or double", 0, 2);
        said(x, "not double or of a", 0, 1, 3);
        said(x, "not(double or of a)", 3);
        said(x, "not double and of a", 1);
        said(x, "not(double and of a)", 1, 2, 3);
        said(x, "not not double", 0, 2);
        said(x, "not not not double", 1, 3);
        said(x, "of a and double or of b and not double", 0, 3);
        said(x, "of a and(double or of b)and not double");
        said(x, "double and of a and held", 0);
        said(x, "laid or laid or of b or laid", 2, 3);
        said(x, "not(not(not((double))))", 1, 3);
        said(x, "held and held and held and held and held and held and held and held and held and held and held and laid");
    }

    // 'pips' both together, 'high' the greater, 'low' the lesser, 'place' from the left, 1 on; 0 not LAID
    private static void saidMeasures() {
        WidowRow x = Due.on("widow a;widow b;stone 0 0 a;stone 5 2 b;stone 2 6 a;stone 6 6 b;");
        said(x, "pips=0", 0);
        said(x, "pips=12", 3);
        said(x, "pips<7", 0);
        said(x, "pips<8", 0, 1);
        said(x, "pips=7", 1);
        said(x, "pips>7", 2, 3);
        said(x, "pips>8", 3);
        said(x, "pips>12");
        said(x, "pips<0");
        said(x, "pips>0", 1, 2, 3);
        said(x, "pips<999", 0, 1, 2, 3);
        said(x, "pips>999");
        said(x, "pips=999");
        said(x, "high=5", 1);
        said(x, "high>5", 2, 3);
        said(x, "high<6", 0, 1);
        said(x, "low=2", 1, 2);
        said(x, "low<2", 0);
        said(x, "low>2", 3);
        said(x, "place=0", 0, 1, 2, 3);
        said(x, "place>0");
        x.lay(0, 2, 0);
        x.lay(1, 1, 0);
        said(x, "place=1", 1);
        said(x, "place=2", 2);
        said(x, "place=0", 0, 3);
        said(x, "place<1", 0, 3);
        said(x, "place<2", 0, 1, 3);
        said(x, "place>1", 2);
        said(x, "place=007 or place=002", 2);
    }
}
