import com.sun.management.ThreadMXBean;
import java.lang.management.ManagementFactory;

/** All calls of a run live in one room: an object makes its rows when it is made, and no call makes more. */
public final class RoomTest {
    // The room has 7.3 million fields and elements; even 512 objects must fit into it, at 4 bytes each or more.
    private static final long MOST_PER_OBJECT = 7_300_000L / 512 * 4;
    // For what the machine itself makes while it loads and compiles.
    private static final long MOST_FOR_CALLS = 200_000L;

    public static void main(String[] args) {
        ThreadMXBean meter = (ThreadMXBean) ManagementFactory.getThreadMXBean();
        long self = Thread.currentThread().getId();
        run(new ChangeGiver(), 20);
        meter.getThreadAllocatedBytes(self);
        long before = meter.getThreadAllocatedBytes(self);
        ChangeGiver x = new ChangeGiver();
        long made = meter.getThreadAllocatedBytes(self);
        int answers = run(x, 45);
        long after = meter.getThreadAllocatedBytes(self);
        Due due = new Due();
        due.is("calls answered", answers != 0, true);
        due.is("an object is small: " + (made - before), made - before <= MOST_PER_OBJECT, true);
        due.is("calls make nothing: " + (after - made), after - made <= MOST_FOR_CALLS, true);
        due.end("RoomTest");
    }

    /** The dear calls, over and over; sets up so that the need has to be searched to its end. */
    private static int run(ChangeGiver x, int times) {
        for (int k = 0; k < 5; k++) {
            x.coin(11 + 7 * k, 20);
            x.fill(k, 16);
        }
        x.note(200);
        x.price(0, 3);
        int answers = 0;
        for (int i = 0; i < times; i++) {
            x.mode(i % 2);
            answers += x.need(0) + x.coins(900 + i % 100) + x.way(999 - i, 3) + x.givable(999) + x.put(i % 6);
            answers += x.refund() + x.pay() + x.buy(0) + (x.light() ? 1 : 0) + x.look(5);
        }
        return answers;
    }
}
