import java.lang.management.ManagementFactory;

/** An object answers for all of its 512 calls, and its calls make next to nothing that needs room. */
public final class RoomTest extends Check {
    /** Behind the 200 calls that tell a full board, rounds of six calls each: 512 in all. */
    private static final int ROUNDS = 52;
    private static final long BYTES_OF_A_BOARD = 20_000;
    private static final long BYTES_OF_CALLS = 4_000;

    private static long bytes() {
        com.sun.management.ThreadMXBean bean = (com.sun.management.ThreadMXBean) ManagementFactory.getThreadMXBean();
        return bean.getThreadAllocatedBytes(Thread.currentThread().getId());
    }

    /** A board as full as it gets, with as many pieces and holes as can be: 200 calls. */
    private static PlaneFills fullBoard() {
        PlaneFills f = new PlaneFills(4);
        for (int k = 0; k < 8; k++) {
            f.plane(k % 2, 0, -k);
            box(f, k, 0, 0, 32, 24);
            for (int n = 0; n < 3; n++) {
                box(f, k, 4 * n, 0, 4 * n + 2, 2);
            }
        }
        f.hatch(0, 2, 1);
        f.rule(GAP, 0);
        for (int k = 0; k < 20; k++) {
            f.obstacle(2, 0, k, 24, 0);
        }
        for (int k = 0; k < 10; k++) {
            f.pad(k % 2, 0, 3 * k, 20, 1, 1);
        }
        return f;
    }

    private static long round(PlaneFills f) {
        return f.fill() + (f.changed(0, 0, 31, 23) ? 1 : 0) + f.rings(0, 0) + f.at(0, 0, 1, 0, 1) + f.stitch(0, 1) + f.spoke(0, 0, 0);
    }

    private static boolean roundsAreTheSame(PlaneFills f) {
        long first = round(f);
        boolean same = true;
        for (int n = 1; n < ROUNDS; n++) {
            same &= round(f) == first;
        }
        return same;
    }

    public static void main(String[] args) {
        says("An object is used for at most 512 calls after it has been made");
        roundsAreTheSame(fullBoard());
        long start = bytes();
        PlaneFills f = fullBoard();
        long told = bytes();
        boolean same = roundsAreTheSame(f);
        long done = bytes();
        due("the last calls answer as the first", true, () -> same);
        due("a full board needs little room", true, () -> told - start < BYTES_OF_A_BOARD);
        due("its calls need next to none", true, () -> done - told < BYTES_OF_CALLS);
        end();
    }
}
