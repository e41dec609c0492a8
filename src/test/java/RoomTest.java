import java.lang.management.ManagementFactory;

/** No call makes an object: an object used for all its calls needs no more room than a new one. */
public final class RoomTest {
    private static final String ISLE = "widow a;widow b;widow c;stone 0 1 a;stone 1 2 b;stone 2 3 c;stone 3 4 a;"
            + "stone 4 5 b;stone 5 6 c;stone 6 0 a;stone 0 2 b;stone 1 3 c;stone 2 4 a;forgive 0;pawn 3;";

    private RoomTest() {
    }

    public static void main(String[] args) {
        WidowRow x = new WidowRow();
        for (int k = 0; k < 20; k++) {
            allCalls(x);
        }
        com.sun.management.ThreadMXBean bean =
                (com.sun.management.ThreadMXBean) ManagementFactory.getThreadMXBean();
        long id = Thread.currentThread().getId();
        long before = bean.getThreadAllocatedBytes(id);
        long told = 0;
        for (int k = 0; k < 50; k++) {
            told += allCalls(x);
        }
        long room = bean.getThreadAllocatedBytes(id) - before;
        System.out.println("2,500 calls and more took " + room + " bytes");
        Due.due("all calls did something", told != 0, true);
        Due.due("less than a byte a call", room < 5000, true);
        before = bean.getThreadAllocatedBytes(id);
        new WidowRow();
        room = bean.getThreadAllocatedBytes(id) - before;
        System.out.println("a new object takes " + room + " bytes");
        Due.due("a new object is small", room < 400000, true);
        Due.finish("RoomTest");
    }

    private static long allCalls(WidowRow x) {
        long told = Due.island(x, ISLE) + Due.memory(x, "deal a 4;deal b 3;deal c 3;passed a 5;")
                + Due.sentence(x, "not(held or laid and pips<5)or fits");
        told += x.longest() + x.all() + x.greedy() + x.game(0, 1);
        told += x.lay(0, 0, 0) + x.lay(1, 1, 1) + x.why(2, 2, 1);
        told += x.tide() + x.pawn(6) + (x.redeem(6) ? 1 : 0) + x.will(0, 1) + x.cat(0) + x.undo() + x.undo();
        told += x.stone(0, 4) + x.find(0, 1) + x.widow(1, 3) + x.fits(0, 1) + x.at(0) + x.pips(1);
        told += x.visits(1) + x.able(1) + x.longest() + x.longAt(0) + x.all() + x.allAt(0) + x.game(0, 2) + x.first();
        told += x.open(1) + x.stretch() + x.leads(5, 2) + x.dearest() + x.counts(1, 0) + x.greedy();
        told += x.dealings() + x.whose(3, 0) + x.sure(1) + x.days(20, 3) + x.drawn(0) + x.write() + x.byteAt(0);
        told += x.gaps(-1) + x.said(-1) + x.said(0) + (x.image(0) ? 1 : 0) + (x.restore(0) ? 1 : 0) + x.count(7);
        return told + x.fault();
    }
}
