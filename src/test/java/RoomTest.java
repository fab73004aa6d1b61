import com.sun.management.ThreadMXBean;
import java.lang.management.ManagementFactory;

/** The room that calls take: an object takes some, its calls next to nothing. */
public final class RoomTest {
    public static void main(String[] args) {
        ThreadMXBean bean = (ThreadMXBean) ManagementFactory.getThreadMXBean();
        long id = Thread.currentThread().getId();
        EnginesOut x = full();
        dearCalls(x);
        long before = bean.getThreadAllocatedBytes(id);
        x = new EnginesOut();
        long made = bean.getThreadAllocatedBytes(id) - before;
        Checks.due("bytes of a new object: " + made, made < 20000, true);
        x = full();
        x.moves(6);
        before = bean.getThreadAllocatedBytes(id);
        for (int i = 0; i < 20; i++) {
            dearCalls(x);
        }
        long taken = bean.getThreadAllocatedBytes(id) - before;
        Checks.due("bytes of some 500 calls: " + taken, taken < 4000, true);
        Checks.close("RoomTest");
    }

    private static EnginesOut full() {
        return Checks.on("r0-1=3;r1-2=3;r2-3=3;r3-4=3;r4-5=3;r5-6=3;r6-7=3;r7-8=3;r8-9=3;r9-10=3;r10-11=3;r11-0=3;r0-6=9;"
            + "w0=9;w1=9;w2=9;w3=9;w4=9;w5=9;w6=9;w7=9;w8=9;w9=9;w10=9;w11=9;s0,1,3,5,6,7,9,11;e0,0,0,0,0,0");
    }

    private static void dearCalls(EnginesOut x) {
        x.moves(6);
        x.needs();
        x.bestFor(500);
        x.nested();
        x.greedy();
        x.best(4);
        x.twice(4);
        x.dearest();
        x.dearestRoad();
        x.worstPair();
        x.least(100);
        x.spread();
        x.worst(3);
        x.states(10);
        x.expects(10);
        x.regret();
        x.cover();
        x.share();
        x.keeps();
        x.up(6);
        x.storms(20, 500);
        x.back();
        x.left();
        x.shuts(0, 6, true);
        x.shuts(0, 6, false);
    }
}
