import java.lang.management.ManagementFactory;

/** The calls make no objects: all rows are made with the object and used again. */
public final class RoomTest {
    private static final int CALLS = 512;
    /** The Java machine's own bookkeeping makes a little; 512 objects would need more. */
    private static final long SPARE_BYTES = 8192;

    public static void main(String[] args) {
        com.sun.management.ThreadMXBean threads =
                (com.sun.management.ThreadMXBean) ManagementFactory.getThreadMXBean();
        long thread = Thread.currentThread().getId();
        threads.getThreadAllocatedBytes(thread);
        // The Java machine makes objects of its own when a call comes for the first time.
        useAll(new CrashRounds(), CALLS);
        CrashRounds bench = new CrashRounds();
        long before = threads.getThreadAllocatedBytes(thread);
        useAll(bench, CALLS);
        long made = threads.getThreadAllocatedBytes(thread) - before;
        System.out.println(CALLS + " calls made " + made + " bytes");
        if (made > SPARE_BYTES) {
            System.out.println("due is at most " + SPARE_BYTES);
            System.exit(1);
        }
    }

    private static void useAll(CrashRounds bench, int calls) {
        for (int i = 0; i < calls; i++) {
            switch (i % 16) {
                case 0: bench.start(i / 16 % 7, 4, 1, 1, 1); break;
                case 1: bench.input(1, 1); break;
                case 2: bench.crash(2, 1, 3); break;
                case 3: bench.spare(1); break;
                case 4: bench.search(2); break;
                case 5: bench.found(5, 0); break;
                case 6: bench.step(); break;
                case 7: bench.run(); break;
                case 8: bench.decided(0); break;
                case 9: bench.knows(0); break;
                case 10: bench.vector(0, 1); break;
                case 11: bench.heard(0); break;
                case 12: bench.count(6); break;
                case 13: bench.breach(); break;
                case 14: bench.replay(); break;
                default: bench.again(); break;
            }
        }
    }
}
