import com.sun.management.ThreadMXBean;
import java.lang.management.ManagementFactory;
import java.util.function.Consumer;

/** What 500 of the dearest calls make stays within the room that all calls of a run share. */
final class RoomTest {
    private static final int CALLS = 500;
    // 7.3 million fields and elements, if each is an int.
    private static final long ROOM = 4L * 7_300_000L;

    private RoomTest() { }

    static void run() {
        within("ifPassed", vats -> vats.ifPassed(240, 0, 1));
        within("emptyIn", vats -> vats.emptyIn(0));
        within("round by two runners", vats -> vats.round(0));
        within("round by looking back", vats -> vats.round(2));
        within("mainValve", DyeVats::mainValve);
        within("digest", DyeVats::digest);
        within("stir, which saves a state", vats -> vats.stir(0));
        within("keep", vats -> vats.keep(0));
        within("firstError", DyeVats::firstError);
    }

    private static void within(String name, Consumer<DyeVats> call) {
        Check.test("the room of " + name, () -> {
            DyeVats vats = new DyeVats();
            TextsTest.type(vats, "0>1*1@0-0");
            vats.fill(4, 1000);
            vats.valve(4, 5, 1, 0, 0);
            long before = made();
            for (int i = 0; i < CALLS; i++) {
                call.accept(vats);
            }
            Check.due(1, made() - before <= ROOM ? 1 : 0);
        });
    }

    private static long made() {
        ThreadMXBean threads = (ThreadMXBean) ManagementFactory.getThreadMXBean();
        return threads.isThreadAllocatedMemorySupported() ? threads.getThreadAllocatedBytes(Thread.currentThread().getId()) : 0;
    }
}
