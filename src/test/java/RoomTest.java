import com.sun.management.ThreadMXBean;
import java.lang.management.ManagementFactory;

/** What a run of calls makes stays small: rows are made once and used again. */
public final class RoomTest {
    private static final int CALLS = 512;
    private static final long BYTES_OF_A_NEW_ONE = 8000;
    private static final long BYTES_OF_A_RUN = 40000;

    private static long answers;

    public static void main(String[] args) {
        Due due = new Due("RoomTest");
        fullRun();
        long start = allocated();
        OctagonYard fresh = new OctagonYard();
        long made = allocated() - start;
        due.holds("a new object takes " + made + " bytes", made < BYTES_OF_A_NEW_ONE);
        answers += fresh.count(0);
        start = allocated();
        fullRun();
        long run = allocated() - start;
        due.holds("a full run takes " + run + " bytes", run < BYTES_OF_A_RUN);
        due.end();
    }

    private static long allocated() {
        return ((ThreadMXBean) ManagementFactory.getThreadMXBean()).getCurrentThreadAllocatedBytes();
    }

    /** Every place filled, then the dearest calls, over and over. */
    private static void fullRun() {
        OctagonYard y = new OctagonYard();
        for (int i = 0; i < 60; i++) {
            answers += y.block(10, 10, 1);
        }
        for (int i = 0; i < 12; i++) {
            answers += y.assembly() + y.put(i, i, false);
        }
        for (int i = 1; i < 40; i++) {
            answers += y.rule(i % 10, i / 4, 1, 0);
        }
        for (int i = 0; i < CALLS - 123; i++) {
            answers += dearest(y, i);
        }
    }

    private static long dearest(OctagonYard y, int i) {
        switch (i % 12) {
            case 0: return y.undo();
            case 1: return y.cut(0, i % 4, 1 + i % 9);
            case 2: return y.turn(1, i % 3);
            case 3: return y.move(1, 1, -1);
            case 4: return y.put(11, i % 11, true);
            case 5: return y.check(11);
            case 6: return y.weight(11);
            case 7: return y.price(11);
            case 8: return y.undecided();
            case 9: return y.above(i % 6, i / 6 % 6, i % 40);
            case 10: return y.meet(0, 1);
            default: return y.walk(11, i);
        }
    }
}
