import com.sun.management.ThreadMXBean;
import java.lang.management.ManagementFactory;

/** All calls of a run live in one room: rows are made once, and no later call makes anything. */
public final class RoomTest {
    private static final ThreadMXBean threads = (ThreadMXBean) ManagementFactory.getThreadMXBean();

    public static void main(String[] args) {
        Check check = new Check();
        useAll(new GoesInto());
        long before = made();
        GoesInto x = new GoesInto();
        long unused = made() - before;
        useAll(x);
        long first = made() - before;
        useAll(x);
        long second = made() - before - first;
        System.out.println("bytes: new " + unused + ", with all rows " + first + ", later " + second);
        // 7.3 million elements, of 8 bytes at most, are all that a run has
        check.due("a new object takes little", unused < 40_000 ? 1 : 0, 1);
        check.due("all rows of an object take little", first < 800_000 ? 1 : 0, 1);
        check.due("later calls make nothing", second < 1_000 ? 1 : 0, 1);
        check.finish();
    }

    private static long made() {
        return threads.getThreadAllocatedBytes(Thread.currentThread().getId());
    }

    private static void useAll(GoesInto x) {
        x.sum(2, 9999999967L);
        x.part(6983776800L, 1000);
        x.prime(6983776800L, 3);
        x.chain(1, 138, 1);
        x.step(2, 30, 9);
        x.rings(1, 5, 50000, 0);
        x.having(3, 0, 50000, -1);
        x.wholly(725760, 5);
        x.bare(52);
        x.share(6983776800L, 0);
        x.friends(6, 50000, 0);
        x.reached(4, 1, 50000);
        x.records(1, 50000, -1);
        x.sort(5775);
        x.made(4680);
        x.falling(1, 6, 50, 50000);
        x.write(4, 0x6f657e26);
        x.fault();
        x.wished(5000, -1);
        x.holds(70);
        x.count(1);
        x.wipe();
    }
}
