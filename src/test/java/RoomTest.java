import java.lang.management.ManagementFactory;

/** An object that is used for nearly all its 512 calls, the dearest among them, has room enough with a tenth of it. */
public final class RoomTest {
    private static final String ISLE = "widow a;widow b;widow c;stone 0 1 a;stone 1 2 b;stone 2 3 c;stone 3 4 a;"
            + "stone 4 5 b;stone 5 6 c;stone 6 0 a;stone 0 2 b;stone 1 3 c;stone 2 4 a;forgive 0;pawn 3;";

    /** A tenth of the room for all calls of one run, which is 7.3 million fields and elements. */
    private static final long TENTH = 7_300_000L / 10 * 8;

    private RoomTest() {
    }

    public static void main(String[] args) {
        long told = fewCalls(new WidowRow());
        com.sun.management.ThreadMXBean bean =
                (com.sun.management.ThreadMXBean) ManagementFactory.getThreadMXBean();
        long id = Thread.currentThread().getId();
        long before = bean.getThreadAllocatedBytes(id);
        WidowRow x = new WidowRow();
        long made = bean.getThreadAllocatedBytes(id);
        told += fewCalls(x);
        long used = bean.getThreadAllocatedBytes(id);
        System.out.println("a new object takes " + (made - before) + " bytes, its calls " + (used - made) + " more");
        Due.due("all calls did something", told != 0, true);
        Due.due("an object with its calls has a tenth of the room", used - before < TENTH, true);
        Due.finish("RoomTest");
    }

    /** Each call of the face some times, 400 to 500 calls in all. */
    private static long fewCalls(WidowRow x) {
        long told = 0;
        for (int k = 0; k < 6; k++) {
            told += allCalls(x);
        }
        return told;
    }

    private static long allCalls(WidowRow x) {
        long told = Due.island(x, ISLE) + Due.memory(x, "deal a 4;deal b 3;deal c 3;passed a 5;")
                + Due.sentence(x, "not(held or laid and pips<5)or fits");
        told += x.longest() + x.all() + x.greedy() + x.game(0, 1);
        told += x.lay(0, 0, 0) + x.lay(1, 1, 1) + x.why(2, 2, 1);
        told += x.tide() + x.pawn(6) + (x.redeem(6) ? 1 : 0) + x.will(0, 1) + x.cat(0) + x.undo() + x.undo();
        told += x.stone(0, 4) + x.find(0, 1) + x.widow(1, 3) + x.fits(0, 1) + x.at(0) + x.pips(1);
        told += x.visits(1) + x.able(1) + x.longest() + x.longAt(0) + x.all() + x.allAt(0) + x.game(0, 2) + x.first();
        told += x.open(1) + x.stretch() + x.leads(5, 2) + x.dearest() + x.counts(1, 0) + x.greedy();
        told += x.dealings() + x.whose(3, 0) + x.sure(1) + x.days(20, 3) + x.drawn(0) + x.write() + x.byteAt(0);
        told += x.gaps(-1) + x.said(-1) + x.said(0) + (x.image(0) ? 1 : 0) + (x.restore(0) ? 1 : 0) + x.count(7);
        return told + x.fault();
    }
}
