import com.sun.management.ThreadMXBean;
import java.lang.management.ManagementFactory;
import java.util.ArrayList;
import java.util.List;
import java.util.Set;

/** Rule 12 of ../shared/LANGUAGE.md: what a run of calls makes stays small, and most calls make nothing. */
public final class RoomTest {
    private static final int CALLS = 512;
    private static final int BYTES_OF_AN_ELEMENT = 8;
    /** Half of the room that all calls of a run have together. */
    private static final long MOST_ELEMENTS = 7_300_000 / 2;
    private static final Set<String> MAKERS = Set.of("make", "twin");
    private static final ThreadMXBean THREADS = (ThreadMXBean) ManagementFactory.getThreadMXBean();

    public static void main(String[] args) {
        List<Acts.Act> acts = new ArrayList<>(Acts.working());
        acts.addAll(Acts.throwing());
        acts.addAll(Acts.refused());
        for (Acts.Act act : acts) {
            if (act.cause() != 0 || !MAKERS.contains(act.name())) {
                Check.due("bytes made by " + act.told(), bytesOf(act), 0);
            }
        }
        Check.due("the dearest calls stay in the room", dearest() <= MOST_ELEMENTS * BYTES_OF_AN_ELEMENT ? 1 : 0, 1);
        Check.end();
    }

    /** The first call is not counted: with it the Java machine loads classes. */
    private static long bytesOf(Acts.Act act) {
        ThrowModels x = Cases.full();
        act.call().on(x);
        x = Cases.full();
        long before = THREADS.getCurrentThreadAllocatedBytes();
        act.call().on(x);
        return THREADS.getCurrentThreadAllocatedBytes() - before;
    }

    private static long dearest() {
        ThrowModels x = new ThrowModels();
        long before = THREADS.getCurrentThreadAllocatedBytes();
        for (int call = 0; call < CALLS; call++) {
            x.make(7, 0, 64, 64);
        }
        long bytes = THREADS.getCurrentThreadAllocatedBytes() - before;
        System.out.print(bytes / CALLS + " bytes for the dearest call, ");
        return bytes;
    }
}
