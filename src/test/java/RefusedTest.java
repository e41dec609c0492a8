import java.util.ArrayList;
import java.util.List;
import java.util.function.ToLongFunction;

/**
 * Calls that are refused: their answers, and that all is behind them as in a twin that was never asked. Each is asked
 * of an object of its own, which has all there is: a row, pawns, visits, a memory, a sentence, a past, an image, a
 * tape, and the answers of searches, days and texts.
 */
public final class RefusedTest {
    private static final int NONE = WidowRow.NONE;
    private static final int MIN = Integer.MIN_VALUE;
    private static final int MAX = Integer.MAX_VALUE;
    private static final String ISLE = "widow a;widow b;widow c;stone 1 2 a;stone 2 3 b;stone 3 3 a;stone 3 0 b;"
            + "stone 4 4 c;stone 5 6 a;stone 4 5 b;forgive 0;quarrel 1 4;pawn 7;";
    private static final String BAD = "!";

    private RefusedTest() {
    }

    public static void main(String[] args) {
        tape();
        texts();
        textsOfEachFault();
        stones();
        lays();
        catsAndTides();
        pawns();
        wills();
        days();
        undo();
        images();
        searches();
        lookers();
        refusedBehindAFullPast();
        refusedOnAnEmptyRow();
        restoredIsAsKept();
        Due.finish("RefusedTest");
    }

    /** The row is 1 2 2 3 3 3 by a, b, a; stone 4 is in pawn, 3, 5 and 6 are in hands; four can be undone. */
    private static WidowRow rich() {
        WidowRow x = new WidowRow();
        Due.island(x, ISLE);
        Due.memory(x, "deal a 3;deal b 2;deal c 1;seen 4 4;passed c 3;");
        Due.sentence(x, "held or double");
        x.days(9, 4);
        x.undo();
        x.lay(0, 0, 0);
        x.image(1);
        x.longest();
        x.all();
        x.game(0, 1);
        x.write();
        x.lay(1, 1, 1);
        x.lay(0, 2, 1);
        x.pawn(4);
        Due.tape(x, "no text at all");
        return x;
    }

    private static void refused(String call, ToLongFunction<WidowRow> asked, long answer) {
        WidowRow x = rich();
        Due.due(call, asked.applyAsLong(x), answer);
        sameAs(call, x, rich());
    }

    private static void sameAs(String call, WidowRow x, WidowRow twin) {
        Look.same(call, Look.at(x), Look.at(twin));
        int left = 0;
        for (int k = 0; k < 9 && left != NONE; k++) {
            left = twin.undo();
            Due.due(call + ": undo " + k, x.undo(), left);
            String then = Look.brief(x);
            Due.due(call + ": undone: " + then, then.equals(Look.brief(twin)), true);
        }
        Due.due(call + ": place 0", x.restore(0), twin.restore(0));
        Due.due(call + ": place 1", x.restore(1), twin.restore(1));
        String then = Look.brief(x);
        Due.due(call + ": restored: " + then, then.equals(Look.brief(twin)), true);
    }

    /** What is done next has the same answers, too. */
    private static void goesOnAs(String call, WidowRow x, WidowRow twin) {
        long[] got = goOn(x);
        long[] want = goOn(twin);
        for (int i = 0; i < want.length; i++) {
            Due.due(call + ": goes on " + i, got[i], want[i]);
        }
    }

    private static long[] goOn(WidowRow x) {
        List<Long> told = new ArrayList<>();
        x.end(0);
        for (int n = 0; n < 7; n++) {
            for (int what = 0; what < 3; what++) {
                told.add((long) x.counts(n, what));
            }
            told.add((long) x.find(n, 6 - n));
            told.add((long) x.find(n, (n + 1) % 7));
            told.add((long) x.fits(n, 0));
            told.add((long) x.leads(n, 4));
            told.add(x.whose(n, 0));
        }
        for (int s = 0; s < 7; s++) {
            told.add((long) x.pawn(s));
        }
        told.add((long) one(x.redeem(6)));
        told.add((long) one(x.redeem(3)));
        told.add((long) x.longest());
        told.add((long) x.longAt(0));
        told.add((long) x.all());
        told.add((long) x.allAt(0));
        told.add((long) x.game(0, 1));
        told.add((long) x.first());
        told.add((long) x.greedy());
        told.add((long) x.lay(1, 3, 1));
        told.add((long) x.days(20, 9));
        told.add((long) x.drawn(2));
        told.add((long) Due.memory(x, "deal b 2;seen 2 3;seen 5 6;deal c 3;"));
        told.add(x.dealings());
        told.add((long) Due.sentence(x, "of c or laid or fits or pips>5"));
        told.add((long) x.said(NONE));
        told.add((long) x.write());
        told.add((long) x.will(0, 2));
        told.add((long) x.undo());
        told.add((long) Look.brief(x).hashCode());
        long[] all = new long[told.size()];
        for (int i = 0; i < all.length; i++) {
            all[i] = told.get(i);
        }
        return all;
    }

    private static int one(boolean answer) {
        return answer ? 1 : 0;
    }

    // 2, 3
    private static void tape() {
        refused("end -1", x -> one(x.end(-1)), 0);
        refused("end 15 of 14", x -> one(x.end(15)), 0);
        refused("end MAX", x -> one(x.end(MAX)), 0);
        refused("end MIN", x -> one(x.end(MIN)), 0);
        WidowRow full = rich();
        WidowRow twin = rich();
        for (int k = 0; k < 46; k++) {
            full.feed(k, 0, 0, 0, 0);
            twin.feed(k, 0, 0, 0, 0);
        }
        Due.due("934 of the tape", full.count(7), 934);
        Due.due("feed to 954", full.feed(1, 2, 3, 4, 5), NONE);
        sameAs("feed to 954", full, twin);
    }

    /** What a text with a fault leaves: a tape without a byte, and all else as it was. */
    private static void text(String call, String text, ToLongFunction<WidowRow> asked, long answer, int fault) {
        WidowRow x = rich();
        x.end(0);
        Due.tape(x, text);
        Due.due(call, asked.applyAsLong(x), answer);
        Due.due(call + ": fault", x.fault(), fault);
        Due.due(call + ": the tape is empty", x.count(7), 0);
        Due.due(call + ": no first byte", x.end(1), false);
        WidowRow twin = rich();
        twin.end(0);
        sameAs(call, x, twin);
        x = rich();
        x.end(0);
        Due.tape(x, text);
        asked.applyAsLong(x);
        goesOnAs(call, x, rich());
    }

    // 4, 34, 43
    private static void texts() {
        text("island", BAD, x -> x.island(), -1, 1);
        text("memory", BAD, x -> x.memory(), -1, 1);
        text("sentence", BAD, x -> x.sentence(), -1, 1);
        text("an empty sentence", "", x -> x.sentence(), -1, 1);
        text("an island too long", Due.behindBlanks(901, "pawn 1;"), x -> x.island(), -901, 1);
        text("a memory too long", Due.behindBlanks(401, "seen 1 2;"), x -> x.memory(), -401, 1);
        text("a sentence too long", Due.behindBlanks(205, "double"), x -> x.sentence(), -201, 1);
    }

    private static void textsOfEachFault() {
        text("island 1", "widow d;stone 5 1 d;stone 1 1 d;forgive 4;quarrel 0 0;pawn 1;widow", x -> x.island(), -67, 1);
        text("island 2", "widow d;stone 5 1 d;stone 1 1 d;forgive 4;quarrel 0 0;pawn 100;", x -> x.island(), -60, 2);
        text("island 3", "widow d;stone 5 1 d;stone 1 1 d;forgive 4;quarrel 0 0;pawn 1;pawn", x -> x.island(), -62, 3);
        text("island 4", "widow d;widow e;widow f;widow g;widow h;widow i;widow j;", x -> x.island(), -49, 4);
        text("memory 1", "deal a 0;seen 2 1;passed b 1;deal c", x -> x.memory(), -36, 1);
        text("memory 2", "deal a 0;seen 2 1;passed b 1;deal c 8;", x -> x.memory(), -37, 2);
        text("memory 3", "deal a 0;seen 2 1;passed b 1;deal a 8;", x -> x.memory(), -35, 3);
        text("sentence 1", "laid and not of a and pips", x -> x.sentence(), -27, 1);
        text("sentence 3", "laid and not of a and of d", x -> x.sentence(), -26, 3);
        text("sentence 4", "laid and not not not not not not not not of a", x -> x.sentence(), -42, 4);
    }

    // 6: NoSuchElementException; a call that throws changes nothing
    private static void stones() {
        refused("stone -1", x -> Due.orRefused(() -> x.stone(-1, 0)), Due.REFUSED);
        refused("stone 7", x -> Due.orRefused(() -> x.stone(7, 0)), Due.REFUSED);
        refused("stone 0 6", x -> Due.orRefused(() -> x.stone(0, 6)), Due.REFUSED);
        refused("stone 0 -1", x -> Due.orRefused(() -> x.stone(0, -1)), Due.REFUSED);
        refused("stone MIN MAX", x -> Due.orRefused(() -> x.stone(MIN, MAX)), Due.REFUSED);
    }

    // 12, 13
    private static void lays() {
        refused("lay another's", x -> x.lay(0, 3, 0), 1);
        refused("lay one in pawn", x -> x.lay(2, 4, 0), 1);
        refused("lay one laid", x -> x.lay(0, 0, 1), 1);
        refused("lay on her own at the left", x -> x.lay(0, 5, 0), 2);
        refused("lay on her own at the right", x -> x.lay(0, 5, 1), 2);
        refused("lay what does not fit at the left", x -> x.lay(1, 6, 0), 3);
        refused("lay what does not fit at the right", x -> x.lay(1, 6, 1), 3);
        refused("lay by -1", x -> x.lay(-1, 3, 1), NONE);
        refused("lay by 3", x -> x.lay(3, 3, 1), NONE);
        refused("lay -1", x -> x.lay(1, -1, 1), NONE);
        refused("lay 7", x -> x.lay(1, 7, 1), NONE);
        refused("lay at -1", x -> x.lay(1, 3, -1), NONE);
        refused("lay at 2", x -> x.lay(1, 3, 2), NONE);
        refused("why, though she can", x -> x.why(1, 3, 1), 0);
        refused("why at 2", x -> x.why(1, 3, 2), NONE);
    }

    // 14, 15
    private static void catsAndTides() {
        refused("cat at -1", x -> x.cat(-1), NONE);
        refused("cat at 2", x -> x.cat(2), NONE);
    }

    // 16, 17
    private static void pawns() {
        refused("pawn -1", x -> x.pawn(-1), NONE);
        refused("pawn 7", x -> x.pawn(7), NONE);
        refused("pawn one laid", x -> x.pawn(0), NONE);
        refused("pawn one in pawn", x -> x.pawn(4), NONE);
        refused("redeem -1", x -> one(x.redeem(-1)), 0);
        refused("redeem 7", x -> one(x.redeem(7)), 0);
        refused("redeem one laid", x -> one(x.redeem(0)), 0);
        refused("redeem one in a hand", x -> one(x.redeem(3)), 0);
    }

    // 18
    private static void wills() {
        refused("will of -1", x -> x.will(-1, 0), NONE);
        refused("will of 3", x -> x.will(3, 0), NONE);
        refused("will for -1", x -> x.will(0, -1), NONE);
        refused("will for 3", x -> x.will(0, 3), NONE);
        refused("will of one alone", x -> x.will(1, 1), NONE);
        refused("will of none such alone", x -> x.will(3, 3), NONE);
    }

    // 38
    private static void days() {
        refused("days 0", x -> x.days(0, 1), NONE);
        refused("days 201", x -> x.days(201, 1), NONE);
        refused("days -1", x -> x.days(-1, 1), NONE);
        refused("days MAX", x -> x.days(MAX, 1), NONE);
    }

    // 19
    private static void undo() {
        WidowRow x = rich();
        WidowRow twin = rich();
        for (int k = 0; k < 4; k++) {
            x.undo();
            twin.undo();
        }
        Due.due("nothing to take back", x.undo(), NONE);
        Due.due("and again", x.undo(), NONE);
        sameAs("undo", x, twin);
    }

    // 45, 46
    private static void images() {
        refused("image -1", x -> one(x.image(-1)), 0);
        refused("image 2", x -> one(x.image(2)), 0);
        refused("image MIN", x -> one(x.image(MIN)), 0);
        refused("restore -1", x -> one(x.restore(-1)), 0);
        refused("restore 2", x -> one(x.restore(2)), 0);
        refused("restore 0, which was never made", x -> one(x.restore(0)), 0);
    }

    // 22, 24, 26: what they told ahead stays
    private static void searches() {
        refused("game with herself", x -> x.game(0, 0), -2);
        refused("game with 3", x -> x.game(0, 3), -2);
        refused("game of -1", x -> x.game(-1, 0), -2);
        refused("leads -1", x -> x.leads(-1, 0), NONE);
        refused("leads to 7", x -> x.leads(0, 7), NONE);
        String isle = "widow a;widow b;stone 6 6 a;" + Due.stones(14, "b");
        WidowRow[] both = new WidowRow[2];
        for (int i = 0; i < 2; i++) {
            both[i] = Due.on(isle);
            both[i].pawn(14);
            both[i].pawn(13);
            both[i].pawn(12);
            both[i].pawn(11);
            both[i].lay(0, 0, 0);
            both[i].longest();
            both[i].all();
            both[i].game(1, 0);
            both[i].redeem(14);
            both[i].redeem(13);
            both[i].redeem(12);
        }
        Due.due("longest of 13", both[0].longest(), NONE);
        Due.due("all of 13", both[0].all(), NONE);
        Due.due("game of 13", both[0].game(1, 0), -2);
        Due.due("leads of 13", both[0].leads(0, 0), NONE);
        sameAs("searches of 13", both[0], both[1]);
    }

    /** Calls that only tell, with arguments that are none. */
    private static void lookers() {
        refused("widow 3", x -> x.widow(3, 0), NONE);
        refused("widow 0 6", x -> x.widow(0, 6), NONE);
        refused("find 7 7", x -> x.find(7, 7), NONE);
        refused("fits 7 0", x -> x.fits(7, 0), NONE);
        refused("at 3", x -> x.at(3), NONE);
        refused("pips 2", x -> x.pips(2), NONE);
        refused("visits 3", x -> x.visits(3), NONE);
        refused("able 2", x -> x.able(2), NONE);
        refused("open 2", x -> x.open(2), NONE);
        refused("counts 7 0", x -> x.counts(7, 0), NONE);
        refused("counts 0 3", x -> x.counts(0, 3), NONE);
        refused("whose 7 0", x -> x.whose(7, 0), NONE);
        refused("whose 0 3", x -> x.whose(0, 3), NONE);
        refused("sure 3", x -> x.sure(3), NONE);
        refused("drawn 3", x -> x.drawn(3), NONE);
        refused("byteAt 3", x -> x.byteAt(3), NONE);
        refused("gaps 0", x -> x.gaps(0), NONE);
        refused("said 5", x -> x.said(5), NONE);
        refused("count 8", x -> x.count(8), NONE);
        refused("longAt 12", x -> x.longAt(12), NONE);
        refused("allAt 10", x -> x.allAt(10), NONE);
        refused("greedy", x -> x.greedy(), 1);
        refused("stretch", x -> x.stretch(), 3);
    }

    /** A refused call takes no place in the past: all eight are still there, and the ninth is not. */
    private static void refusedBehindAFullPast() {
        WidowRow[] both = new WidowRow[2];
        for (int i = 0; i < 2; i++) {
            both[i] = rich();
            for (int k = 0; k < 3; k++) {
                both[i].tide();
                both[i].redeem(4);
                both[i].pawn(4);
            }
        }
        WidowRow x = both[0];
        int sum = x.lay(0, 5, 0) + x.lay(9, 9, 9) + x.cat(2) + x.pawn(0) + one(x.redeem(0)) + x.will(0, 0)
                + x.days(0, 0) + one(x.restore(0));
        Due.due("all refused", sum, 2 - 5);
        sameAs("refused behind a full past", x, both[1]);
    }

    private static void refusedOnAnEmptyRow() {
        WidowRow[] both = new WidowRow[2];
        for (int i = 0; i < 2; i++) {
            both[i] = rich();
            both[i].cat(0);
            both[i].cat(1);
            both[i].cat(0);
        }
        WidowRow x = both[0];
        Due.due("cat at the left", x.cat(0), NONE);
        Due.due("cat at the right", x.cat(1), NONE);
        Due.due("tide", x.tide(), NONE);
        Due.due("game", x.game(0, 1), -2);
        sameAs("refused on an empty row", x, both[1]);
    }

    // 46: They are as kept in place k (the tape, and what other calls told last, stays; nothing can be undone)
    private static void restoredIsAsKept() {
        for (int k = 0; k < 2; k++) {
            WidowRow x = elsewhere(k);
            WidowRow twin = rich();
            twin.image(k);
            twin.restore(k);
            Due.due("nothing can be undone", x.undo(), NONE);
            Look.same("restored from " + k, Look.at(x), Look.at(twin));
            goesOnAs("restored from " + k, elsewhere(k), twin);
        }
    }

    /** The rich one, after it has been on another island. */
    private static WidowRow elsewhere(int k) {
        WidowRow x = rich();
        x.image(k);
        x.end(0);
        Due.island(x, "widow q;widow r;stone 5 1 q;stone 0 0 r;stone 1 1 r;stone 6 2 q;stone 0 5 r;forgive 5;"
                + "quarrel 1 1;quarrel 3 3;pawn 1;");
        Due.memory(x, "deal q 3;deal r 1;seen 1 5;seen 0 0;passed r 6;");
        Due.sentence(x, "not laid");
        x.lay(0, 0, 0);
        x.lay(1, 4, 0);
        x.pawn(3);
        x.tide();
        Due.tape(x, "no text at all");
        Due.due("restore " + k, x.restore(k), true);
        return x;
    }
}
