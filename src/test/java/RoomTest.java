import com.sun.management.ThreadMXBean;
import java.lang.management.ManagementFactory;

/** What an object makes in all its calls stays small, however dear the calls are. */
public final class RoomTest {
    private static final Check check = new Check();
    private static final ThreadMXBean BEAN = (ThreadMXBean) ManagementFactory.getThreadMXBean();
    private static final String TEXT = "d9,2,20;h0,8,9,60;s0,7,8,60;r0,6,7,60;c0,5,6,6;i0,4,5,1;h0,3,4,60;";
    private static final int MOST_BYTES = 40000;

    public static void main(String[] args) {
        for (int warm = 0; warm < 3; warm++) {
            manyCalls();
        }
        long before = made();
        manyCalls();
        long bytes = made() - before;
        check.holds("at most " + MOST_BYTES + " bytes for 512 calls, not " + bytes, bytes <= MOST_BYTES);
        System.out.println(bytes + " bytes for an object and its calls");
        check.end();
    }

    private static long made() {
        return BEAN.getThreadAllocatedBytes(Thread.currentThread().getId());
    }

    private static void manyCalls() {
        DishLift x = new DishLift();
        Check.tell(x, TEXT);
        for (int k = 0; k < 20; k++) {
            x.row(k % 8, k % 3, 40);
            x.copy(0, 0, 0, 1, 39);
            x.minutes(24);
            x.undo();
            x.image(k % 2);
            x.restore(k % 2);
            x.pull(k % 9);
            x.ahead(0, 60, 0);
            x.done();
            x.site(40, 1);
            x.need(40, 1);
            x.ranks(40, -1);
            x.holds(2);
            x.share(0, 999);
            x.byTurns(4, 20);
            x.who(0, 2, 0, 0, 12);
            x.stuck(5, 8, 5, 0);
            x.drawn(60, 9, 0);
            x.ask(k % 6, 0);
            x.send(k % 6, 1, 30);
        }
    }
}
