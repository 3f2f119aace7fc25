import com.sun.management.ThreadMXBean;
import java.lang.management.ManagementFactory;

/** A dear run of 512 calls: six full plans, each asked what costs most, must stay small in the one room. */
public final class RoomTest {
    /** 7.3 million elements of four bytes are 29 million bytes; a run is to take a small part of that. */
    private static final long MOST_BYTES = 3_000_000;

    public static void main(String[] args) {
        run();
        ThreadMXBean threads = (ThreadMXBean) ManagementFactory.getThreadMXBean();
        long before = threads.getThreadAllocatedBytes(Thread.currentThread().getId());
        run();
        long made = threads.getThreadAllocatedBytes(Thread.currentThread().getId()) - before;
        Check.due("bytes made: " + made, made <= MOST_BYTES, true);
        Check.finish("RoomTest, " + made + " bytes");
    }

    private static void run() {
        BuriedPairs town = new BuriedPairs();
        for (int plan = 0; plan < 6; plan++) {
            fill(town, plan);
        }
        int calls = 6 * 50;
        for (int i = 0; calls < 512; i++, calls += 2) {
            int plan = i % 6;
            boolean wet = i % 2 == 0;
            int other = town.next(plan, wet, 0, 99);
            int same = town.next(plan, wet, 0, 99);
            Check.due("next is the same twice", other, same);
            if (i % 12 == 11) {
                town.slip(plan, 1, 0, 1, i % 10, 0);
            }
        }
    }

    private static void fill(BuriedPairs town, int plan) {
        Check.due("plan", Check.plan(town, "b 4;c 0 1 6 40;c 1 2 6 40;c 2 3 6 40"
            + ";j 0 0 1 0;j 0 1 1 1;j 0 2 1 2;j 0 3 1 3;j 1 0 2 0;j 1 1 2 1;j 1 2 2 2;j 1 3 2 3;h 2 0 0;h 2 1 1"), plan);
        for (int i = 0; i < 10; i++) {
            Check.due("trouble", town.trouble(plan, i % 3, i % 3, i % 4, (i + 1) % 4, 3 * i), i);
        }
        for (int i = 0; i < 12; i++) {
            Check.due("test", town.test(plan, i % 2, i % 3, i % 6, i % 2, 2 - i % 3, 1 - i % 2), i);
        }
        for (int i = 0; i < 24; i++) {
            Check.due("read", town.read(plan, i % 12, i < 12, town.tells(plan, i % 12, 0, i < 12)), i + 1);
        }
        Check.due("fits", town.fitting(plan, 0), 0);
    }
}
