import com.sun.management.ThreadMXBean;
import java.lang.management.ManagementFactory;

/** All calls of a run live in one room: a new object is small, and 512 of the dearest calls make next to nothing. */
public final class RoomTest {
    private static final long MOST_OF_AN_OBJECT = 100_000, MOST_OF_THE_CALLS = 10_000;
    private static final ThreadMXBean MADE = (ThreadMXBean) ManagementFactory.getThreadMXBean();

    public static void main(String[] args) {
        dearestCalls(new OrderMover());
        long before = MADE.getCurrentThreadAllocatedBytes();
        OrderMover x = new OrderMover();
        long between = MADE.getCurrentThreadAllocatedBytes();
        dearestCalls(x);
        long behind = MADE.getCurrentThreadAllocatedBytes();
        Due.holds("a new object takes " + (between - before) + " bytes", between - before <= MOST_OF_AN_OBJECT);
        Due.holds("512 calls take " + (behind - between) + " bytes", behind - between <= MOST_OF_THE_CALLS);
        Due.end();
    }

    private static void dearestCalls(OrderMover x) {
        x.field(97);
        x.system(3, 3);
        x.poly(0);
        for (int call = 3; call + 9 <= 512; call += 9) {
            x.drift(call);
            x.keepBase(1, 4);
            x.stands(1);
            x.add(0, 1, Integer.MAX_VALUE, Integer.MAX_VALUE - call);
            x.plus(0, 0, 2);
            x.reduce(0, 3);
            x.count(8);
            x.goBack(x.image(0) - 9);
        }
    }
}
