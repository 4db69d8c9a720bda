import com.sun.management.ThreadMXBean;
import java.lang.management.ManagementFactory;

/**
 * All calls of one run share a room of some 600,000 objects and 7.3 million fields and elements. An
 * object takes 16 bytes or more, an element of the class's arrays 4 or more: whoever stays below
 * MOST_BYTES in all stays below both.
 */
public final class RoomTest extends Check {
    private static final long MOST_BYTES = 600_000L * 16;
    private static final int CALLS = 512;

    interface Run { void on(RingKeeper x); }

    private static void dueRoom(String run, Run calls) {
        ThreadMXBean threads = (ThreadMXBean) ManagementFactory.getThreadMXBean();
        long self = Thread.currentThread().getId();
        long before = threads.getThreadAllocatedBytes(self);
        RingKeeper x = new RingKeeper();
        calls.on(x);
        long made = threads.getThreadAllocatedBytes(self) - before;
        if (before < 0) fail(run + ": this Java can't tell what a run makes");
        if (made > MOST_BYTES) fail(run + " makes " + made + " bytes, at most " + MOST_BYTES + " are due");
        due(run + ", astray()", x.astray(), 0);
    }

    /** Each commit is followed by astray(), which does all over again each time. */
    private static void commitAndAudit(RingKeeper x, int t) {
        x.commit(t);
        x.astray();
    }

    private static void manyCommits(int writes) {
        dueRoom("commits of " + writes + " writes", x -> {
            int key = 0;
            for (int i = 0; i < CALLS / (3 + writes); i++) {
                int t = x.begin(false);
                for (int w = 0; w < writes; w++) x.write(t, key++, key);
                commitAndAudit(x, t);
            }
        });
    }

    private static void oneGreatCommit(int writes) {
        dueRoom("a commit of " + writes + " writes, then others", x -> {
            int t = x.begin(false);
            for (int key = 0; key < writes; key++) x.write(t, -key, key);
            commitAndAudit(x, t);
            for (int i = 0; i < (CALLS - 3 - writes) / 3; i++) commitAndAudit(x, x.begin(false));
        });
    }

    private static void manyRows() {
        dueRoom("scans with 100 rows", x -> {
            int t = x.begin(false);
            for (int key = 0; key < 100; key++) x.write(t, key, key);
            commitAndAudit(x, t);
            for (int i = 0; i < (CALLS - 103) / 4; i++) {
                t = x.begin(false);
                due("scan", x.scan(t, 0, 100, 100), 100);
                commitAndAudit(x, t);
            }
        });
    }

    private static void manyRuns() {
        dueRoom("reads that are all RUNS of their own", x -> {
            int t = x.begin(false);
            for (int i = 0; i < CALLS - 3; i++) x.read(t, 2 * i);
            commitAndAudit(x, t);
        });
    }

    public static void main(String[] args) {
        at("the room of a run");
        for (int writes = 0; writes <= 4; writes++) manyCommits(writes);
        for (int writes = 50; writes <= 450; writes += 50) oneGreatCommit(writes);
        manyRows();
        manyRuns();
        end();
    }
}
