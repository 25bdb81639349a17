import com.sun.management.ThreadMXBean;
import java.lang.management.ManagementFactory;

/** Calls make no objects: all rows are made with the object, so a run's room doesn't grow. */
public final class RoomTest {
    private static final Due due = new Due("RoomTest");
    private static final ThreadMXBean BEAN = (ThreadMXBean) ManagementFactory.getThreadMXBean();
    /** What the machine itself may set aside meanwhile. */
    private static final long SLACK = 4096;

    public static void main(String[] args) {
        dearestCalls(town());
        LampRound x = town();
        long before = BEAN.getThreadAllocatedBytes(Thread.currentThread().getId());
        dearestCalls(x);
        long after = BEAN.getThreadAllocatedBytes(Thread.currentThread().getId());
        due.is("room: bytes made by calls", after - before < SLACK ? 0 : after - before, 0);
        before = BEAN.getThreadAllocatedBytes(Thread.currentThread().getId());
        LampRound y = new LampRound();
        after = BEAN.getThreadAllocatedBytes(Thread.currentThread().getId());
        due.is("room: an object is small", after - before < 64 * 1024 ? 1 : 0, 1);
        due.is("room: a new one", y.many(0), 0);
        due.end();
    }

    private static LampRound town() {
        LampRound x = new LampRound();
        for (int i = 0; i < 99; i++) x.lane(i % 40, i < 40 ? (i + 1) % 40 : (i * 11 + 5) % 40, 1 + i * 37 % 90);
        for (int i = 0; i < 12; i++) x.lamp(i * 3, i < 4 ? 4 : 0, 0);
        return x;
    }

    private static int dearestCalls(LampRound x) {
        int sum = 0;
        for (int i = 0; i < 24; i++) {
            boolean out = i % 2 == 0;
            for (int l = 0; l < 4; l++) sum += x.dark(l, out);
            sum += x.open(i % 5, out) + x.least() + x.second() + x.with(5, 6, out) + x.better();
            sum += x.row(i % 4, 1, 50) + x.lay(i % 4, 0, 9, 80) + x.walk(0, 39, 3);
            sum += x.climb(20) + (int) x.bound() + x.taken(3) + x.prove(500 + 3 * i) + x.check(500 + 3 * i);
        }
        return sum;
    }
}
