import com.sun.management.ThreadMXBean;
import java.lang.management.ManagementFactory;

/** The room of a run: what the constructor makes is little, and what calls make is nothing. */
public final class RoomTest {
    /** Some 3,200 elements of at most 4 bytes, and the heads of some 60 rows. */
    private static final long BYTES_OF_A_DESK = 20_000;
    /** What the machine itself may take while it is asked. */
    private static final long BYTES_ASIDE = 2_000;

    public static void main(String[] args) {
        ThreadMXBean threads = (ThreadMXBean) ManagementFactory.getThreadMXBean();
        use(new HoursDesk());
        threads.getCurrentThreadAllocatedBytes();
        long start = threads.getCurrentThreadAllocatedBytes();
        HoursDesk x = new HoursDesk();
        long made = threads.getCurrentThreadAllocatedBytes();
        int calls = use(x);
        long used = threads.getCurrentThreadAllocatedBytes();
        System.out.println("a desk: " + (made - start) + " bytes, " + calls + " calls: " + (used - made) + " bytes");
        Due.that("the desk's room", made - start <= BYTES_OF_A_DESK);
        Due.that("the calls' room", used - made <= BYTES_ASIDE);
        Due.end();
    }

    private static int use(HoursDesk x) {
        int calls = 0;
        for (int i = 0; i < 8; i++) {
            x.person(i % 4, 300, 127, 15, 300);
        }
        for (int i = 0; i < 3; i++) {
            x.place(127, i, i == 0, 1 + i, 8);
        }
        x.sheet(0, 16, 20);
        calls += 12;
        for (int i = 0; i < 31; i++) {
            x.lay(i % 8, i, 0);
            x.entry(i % 8, i, 100, i % 3, i);
            x.absent(i % 8, i);
            x.reason(i, 300);
            x.when(i, 8);
            x.plans(i + 7);
            x.planned(i, 3);
            x.late(i);
            x.court(i % 8, 364);
            x.pace(i % 8, 364, true);
            x.counted(i % 8, 364, 364);
            x.strike();
            x.copy(0, 0, 0, 1, 19);
            x.bar(i % 8, 7, true);
            x.undo();
            x.told(5);
            calls += 16;
        }
        return calls;
    }
}
