import com.sun.management.ThreadMXBean;
import java.lang.management.ManagementFactory;

/** "at most 512 calls": the last one is answered as the first, and no run of them makes more than a little. */
public final class RoomTest {
    private static final int CALLS = 512;
    /** 100,000 numbers: a seventieth of the room that all calls of one run have. */
    private static final long MOST_BYTES = 400_000;
    /** What an object that is not used, or for groups alone, makes. */
    private static final long MOST_BYTES_OF_NONE = 10_000;

    private static final ThreadMXBean THREADS = (ThreadMXBean) ManagementFactory.getThreadMXBean();

    private RoomTest() {
    }

    public static void main(String[] args) {
        lastCall();
        unusedObject();
        for (int run = 0; run < 5; run++) {
            room(run);
        }
        Check.end();
    }

    private static long bytes() {
        return THREADS.getCurrentThreadAllocatedBytes();
    }

    private static void lastCall() {
        GroupTowers t = new GroupTowers();
        for (int call = 0; call < CALLS - 2; call++) {
            Check.due("call " + call, call % 2 == 0 ? t.cyclic(48) : t.drop(), 0);
        }
        Check.due("the last but one", t.dihedral(3), 0);
        Check.due("the last", t.product(0, 3, 1), 5);
    }

    private static void unusedObject() {
        new GroupTowers();
        long before = bytes();
        GroupTowers t = new GroupTowers();
        Check.due("room of a new object", bytes() - before <= MOST_BYTES_OF_NONE ? 1 : 0, 1);
        Check.due("no group", t.count(0), 0);
    }

    /** All places are filled and emptied, again and again, with the dearest questions between. */
    private static void room(int run) {
        long before = bytes();
        GroupTowers t = new GroupTowers();
        for (int call = 0; call < CALLS; call++) {
            dear(t, call < 40 ? call : call + run);
        }
        long made = bytes() - before;
        Check.due("run " + run + ": " + made + " bytes", made <= MOST_BYTES ? 1 : 0, 1);
    }

    private static int dear(GroupTowers t, int call) {
        if (call < 8) {
            return call == 0 ? t.cyclic(2) : call < 3 ? t.pair(call - 1, 0) : call == 3 ? t.quaternions()
                : call == 4 ? t.dihedral(4) : t.pair(2, call == 5 ? 1 : 0);
        }
        if (call < 14) {
            return t.module(call % 2 == 0 ? 2 : 3, 2, 2);
        }
        int step = call - 14;
        switch (step % 16) {
            case 0: return t.dimension(step % 6, 3);
            case 1: return t.same(5, 5, 20000);
            case 2: return t.over(step / 16 % 6, 1);
            case 3: return t.about(5, 5);
            case 4: return t.sheet(step % 4, step / 16 % 2, 144);
            case 5: return t.classOf(0, 3, 0);
            case 6: return t.acts(step % 6, 1, 0, 1, 1, 0);
            case 7: return t.sum(0, 4095, 4095);
            case 8: return t.leave();
            case 9: return t.module(2, 2, 2);
            case 10: return t.drop();
            case 11: return t.twist(5, 4095, 7, 7, 1);
            case 12: return t.table(0, 0, 12);
            case 13: return t.made(5, 30, 31);
            case 14: return t.cyclic(48);
            default: return t.parts(5, 0);
        }
    }
}
