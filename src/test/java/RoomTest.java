import com.sun.management.ThreadMXBean;
import java.lang.management.ManagementFactory;

/** All calls of a run live in one room: an object is small, and its calls make nothing more. */
public final class RoomTest {
    private static final int CALLS = 512;
    /** Far below the room of 7.3 million elements; it leaves the machine something for its own. */
    private static final long MOST_FOR_AN_OBJECT = 64 * 1024, MOST_FOR_CALLS = 64 * 1024;

    private RoomTest() {
    }

    public static void main(String[] args) {
        ThreadMXBean threads = (ThreadMXBean) ManagementFactory.getThreadMXBean();
        long own = Thread.currentThread().getId();
        use(new SplitRounds());
        long start = threads.getThreadAllocatedBytes(own);
        SplitRounds x = new SplitRounds();
        long made = threads.getThreadAllocatedBytes(own);
        int calls = use(x);
        long used = threads.getThreadAllocatedBytes(own);
        System.out.println("an object takes " + (made - start) + " bytes, " + calls + " calls take " + (used - made));
        Due.holds("an object is small", made - start < MOST_FOR_AN_OBJECT);
        Due.holds("calls make nothing", used - made < MOST_FOR_CALLS);
        Due.due("calls", calls, CALLS);
        Due.end();
    }

    /** The largest plan there can be, then changes, rounds and judges in turn. */
    private static int use(SplitRounds x) {
        int calls = build(x);
        for (int i = 0; calls + 3 <= CALLS; i++) {
            x.weigh(i % 4, i % 6, false, i % 3, i % 19 - 9);
            x.run(50);
            x.judge();
            calls += 3;
        }
        for (; calls < CALLS; calls++) {
            x.told(0);
        }
        return calls;
    }

    private static int build(SplitRounds x) {
        int calls = 0;
        for (int c = 0; c < 6; c++, calls++) {
            x.choice(4);
        }
        for (int f = 1; f < 4; f++, calls++) {
            x.future(f);
        }
        for (int p = 0; p < 4; p++, calls++) {
            x.part();
            for (int i = 0; i < 3; i++, calls += 2) {
                x.join(p, (p + i) % 6);
                x.local(p, 3, 7 + i);
            }
            x.local(p, 3, 1);
            calls++;
            for (int r = 0; r < 6; r++, calls += 6) {
                x.row(p, 3 * r - 9);
                for (int i = 0; i < 3; i++) {
                    x.weigh(p, r, true, (p + i) % 6, (r + 2 * i) % 5 - 2);
                }
                x.weigh(p, r, false, r % 3, -1 - r);
                x.weigh(p, r, false, 3, -1);
            }
        }
        return calls;
    }
}
