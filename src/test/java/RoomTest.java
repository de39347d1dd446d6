import com.sun.management.ThreadMXBean;
import java.lang.management.ManagementFactory;

/**
 * What a run makes stays small, however its calls are mixed: a run has room for some 7.3 million
 * fields and elements (even if each of them took eight bytes, less than 58 million bytes). The
 * object makes all that it needs when it is made; no call after that makes anything.
 */
public final class RoomTest {
    private static final Check CHECK = new Check("RoomTest");
    private static final ThreadMXBean THREADS =
            (ThreadMXBean) ManagementFactory.getThreadMXBean();
    private static final int QUESTIONS = 6;
    /** What measuring may make itself: far less than an object of 16 bytes in each of 512 calls. */
    private static final long ALMOST_NOTHING = 2_000;
    private static long sum = 0;

    public static void main(String[] args) {
        warmUp();
        for (int round = 0; round < 2; round++) {
            long before = made();
            dearCalls(new BasisWalk());
            CHECK.due("512 dear calls and their object make less than 1,000,000 bytes",
                    made() - before < 1_000_000, true);
            before = made();
            new BasisWalk().columns(0);
            CHECK.due("an object makes less than 400,000 bytes", made() - before < 400_000, true);
            BasisWalk walk = new BasisWalk();
            before = made();
            dearCalls(walk);
            CHECK.due("512 dear calls make nothing", made() - before < ALMOST_NOTHING, true);
        }
        firstQuestions();
        CHECK.due("something was answered", sum > 0, true);
        CHECK.finish();
    }

    /** Each question as the first one on a new object, to a table as great as can be. */
    private static void firstQuestions() {
        for (int question = 0; question < QUESTIONS; question++) {
            BasisWalk walk = new BasisWalk();
            long before = made();
            walk.begin(3, 0, 12, 12);
            walk.put(3, 11, 11, 999);
            ask(walk, 3, question);
            long bytes = made() - before;
            CHECK.due("first question " + question + " makes nothing",
                    bytes < ALMOST_NOTHING, true);
        }
    }

    /** What Java itself makes at the first use of a class or a switch is not counted. */
    private static void warmUp() {
        dearCalls(new BasisWalk());
        made();
    }

    private static long made() {
        return THREADS.getThreadAllocatedBytes(Thread.currentThread().getId());
    }

    /** All tables as great as can be, and each question behind a change. */
    private static void dearCalls(BasisWalk walk) {
        for (int call = 0; call < 128; call++) {
            int t = call % 4;
            walk.begin(t, 0, 12, 12 - call / 4 % 2);
            walk.put(t, call % 12, call % 11, 1 + call);
            ask(walk, t, call % QUESTIONS);
            sum += walk.columns(t);
        }
    }

    private static void ask(BasisWalk walk, int t, int question) {
        sum += switch (question) {
            case 0 -> walk.rank(t, 1);
            case 1 -> walk.count(t, 3);
            case 2 -> walk.member(t, 1, 3);
            case 3 -> walk.tutte(t, 1, 11);
            case 4 -> walk.sign(t, 1);
            default -> walk.below(t, 2);
        };
    }
}
