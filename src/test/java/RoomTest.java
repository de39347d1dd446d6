import com.sun.management.ThreadMXBean;
import java.lang.management.ManagementFactory;

/**
 * What a run makes stays small, however its calls are mixed: a run has room for some 7.3 million
 * fields and elements (even if each of them took eight bytes, less than 58 million bytes).
 */
public final class RoomTest {
    private static final Check CHECK = new Check("RoomTest");
    private static final ThreadMXBean THREADS =
            (ThreadMXBean) ManagementFactory.getThreadMXBean();

    public static void main(String[] args) {
        dearCalls();
        oneObject();
        for (int round = 0; round < 2; round++) {
            long before = made();
            dearCalls();
            CHECK.due("512 dear calls make less than 1,000,000 bytes", made() - before < 1_000_000, true);
            before = made();
            oneObject();
            CHECK.due("an object makes less than 10,000 bytes", made() - before < 10_000, true);
        }
        CHECK.finish();
    }

    private static long made() {
        return THREADS.getThreadAllocatedBytes(Thread.currentThread().getId());
    }

    private static void oneObject() {
        new BasisWalk().columns(0);
    }

    /** All tables as great as can be, and each question behind a change. */
    private static void dearCalls() {
        BasisWalk walk = new BasisWalk();
        long sum = 0;
        for (int call = 0; call < 128; call++) {
            int t = call % 4;
            walk.begin(t, 0, 12, 12 - call / 4 % 2);
            walk.put(t, call % 12, call % 11, 1 + call);
            sum += switch (call % 6) {
                case 0 -> walk.rank(t, 1);
                case 1 -> walk.count(t, 3);
                case 2 -> walk.member(t, 1, 3);
                case 3 -> walk.tutte(t, 1, 11);
                case 4 -> walk.sign(t, 1);
                default -> walk.below(t, 2);
            };
            sum += walk.columns(t);
        }
        CHECK.due("something was answered", sum > 0, true);
    }
}
