import com.sun.management.ThreadMXBean;
import java.lang.management.ManagementFactory;

/**
 * All calls of a run live in one room, so the calls take none of it: everything that an object needs
 * is made with it. Measured as the bytes that the thread takes over many long runs of calls.
 */
public final class RoomTest {
    private static final int OBJECTS = 200;
    private static final int CALLS = 512;
    private static final int MOST_BYTES_OF_ONE = 8192;

    private static final Checks CHECKS = new Checks();

    /** So that no answer is thrown away unseen. */
    private static long sum = 0;

    public static void main(String[] args) {
        if (ManagementFactory.getThreadMXBean() instanceof ThreadMXBean threads
                && threads.isThreadAllocatedMemorySupported()
                && threads.isThreadAllocatedMemoryEnabled()) {
            measure(threads);
        } else {
            System.out.println("this machine does not tell what a thread takes: not measured");
            use(new MappingChase[] {new MappingChase()});
        }
        CHECKS.due("the calls went on", sum != 0, true);
        CHECKS.end();
    }

    private static void measure(ThreadMXBean threads) {
        MappingChase[] objects = new MappingChase[OBJECTS];
        // once for nothing: what the machine itself takes for first calls is not counted
        make(objects);
        use(objects);
        long beforeMaking = threads.getCurrentThreadAllocatedBytes();
        make(objects);
        long made = threads.getCurrentThreadAllocatedBytes() - beforeMaking;
        CHECKS.due("an object is small: " + made / OBJECTS + " bytes;", made / OBJECTS <= MOST_BYTES_OF_ONE, true);
        long beforeUse = threads.getCurrentThreadAllocatedBytes();
        use(objects);
        long used = threads.getCurrentThreadAllocatedBytes() - beforeUse;
        // an object a call would be 16 bytes each at least
        CHECKS.due("calls make no objects: " + used + " bytes;", used < (long) OBJECTS * CALLS, true);
    }

    private static void make(MappingChase[] objects) {
        for (int i = 0; i < objects.length; i++) {
            objects[i] = new MappingChase();
        }
    }

    private static void use(MappingChase[] objects) {
        for (MappingChase x : objects) {
            for (int i = 0; i < CALLS / 64; i++) {
                fill(x, i);
                outcome(x);
            }
        }
    }

    /** 33 calls: every one that builds or chases. */
    private static void fill(MappingChase x, int i) {
        x.reset();
        sum += x.drop() + x.drop() + x.drop();
        x.open(0);
        sum += x.body(0, 0, 1) + x.head(2, 0, 2) + x.head(3, 2, 1) + x.close();
        x.open(0);
        sum += x.body(1, 0, 1) + x.head(4, 2, 3) + x.close();
        x.open(1);
        sum += x.body(2, 0, 1) + x.body(2, 0, 2);
        sum += x.pair(1, 2) ? x.close() : 0;
        for (int k = 0; k < 8; k++) {
            sum += x.fact(k & 1, i, k + i);
        }
        sum += x.take(0, i, i) ? 1 : 0;
        sum += x.acyclic() ? x.start() : 0;
        sum += x.step() + x.run(0) + x.run(100) + x.state();
    }

    /** 30 calls: every one that looks at the outcome. */
    private static void outcome(MappingChase x) {
        x.open(2);
        sum += x.body(2, 0, 1) + x.body(3, 1, 2);
        sum += x.pair(0, 2) ? x.close() : 0;
        for (int relation = 0; relation < 6; relation++) {
            sum += x.size(relation) + x.at(relation, 0) + x.at(relation, 7);
        }
        sum += x.nulls() + x.answers() + x.answer(0) + x.answer(1) + x.fold() + x.fold() + x.answer(-1);
    }
}
