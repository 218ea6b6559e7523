import com.sun.management.ThreadMXBean;
import java.lang.management.ManagementFactory;
import java.util.LinkedHashMap;
import java.util.Map;

/** What an object and its dearest calls make stays far within the room that all calls of a run live in. */
public final class RoomTest {
    // Twice as many, for some of the tests call twice, and those before them are below 512.
    private static final int CALLS = 230;
    // A third of 7.3 million fields and elements, which are of four bytes at the least.
    private static final long MOST_BYTES = 4 * 7_300_000L / 3;

    /** A call on a bench; i is its number. */
    private interface OnBench {
        void run(TableauBench x, int i);
    }

    private RoomTest() {
    }

    public static void main(String[] args) {
        if (!(ManagementFactory.getThreadMXBean() instanceof ThreadMXBean counter)
                || !counter.isThreadAllocatedMemorySupported()) {
            System.out.println("this machine does not count what is made");
            return;
        }
        counter.setThreadAllocatedMemoryEnabled(true);
        for (Map.Entry<String, OnBench> call : dearestCalls().entrySet()) {
            long id = Thread.currentThread().getId();
            long before = counter.getThreadAllocatedBytes(id);
            runAll(call.getValue());
            long made = counter.getThreadAllocatedBytes(id) - before;
            Checks.same(call.getKey() + " made " + made + " bytes, which is too much", made > MOST_BYTES, false);
        }
        Checks.finish();
    }

    private static void runAll(OnBench call) {
        TableauBench x = new TableauBench();
        x.shape(0, Checks.packed(6, 5, 4, 3, 2, 1));
        x.shape(1, Checks.packed(4, 3, 2, 1));
        x.shape(2, Checks.packed(5, 3, 2, 1));
        x.shape(3, Checks.packed(6, 4, 2, 1, 1));
        for (int i = 0; i < 16; i++) {
            x.letter(0, 1 + 7 * i % 16);
            x.letter(1, 16 - i);
        }
        x.insert(0, false);
        for (int i = 0; i < CALLS; i++) {
            try {
                call.run(x, i);
            } catch (RuntimeException e) {
                // What a refused call makes counts, too.
            }
        }
    }

    private static Map<String, OnBench> dearestCalls() {
        Map<String, OnBench> calls = new LinkedHashMap<>();
        calls.put("shape", (x, i) -> x.shape(0, i));
        calls.put("conjugate", (x, i) -> x.conjugate(0));
        calls.put("rank", (x, i) -> x.rank(0));
        calls.put("unrank", (x, i) -> x.unrank(0, 24, i));
        calls.put("unrank, refused", (x, i) -> x.unrank(0, 24, 1574));
        calls.put("letter and cut", (x, i) -> {
            x.cut(0, 15);
            x.letter(0, 1);
        });
        calls.put("insert", (x, i) -> x.insert(i % 2, i % 3 == 0));
        calls.put("recover", (x, i) -> x.recover(0));
        calls.put("read", (x, i) -> x.read(0));
        calls.put("equivalent", (x, i) -> x.equivalent());
        calls.put("rectify", (x, i) -> x.rectify(0, 0, 0, i % 3));
        calls.put("rectify of no letters", (x, i) -> {
            x.cut(0, 0);
            x.rectify(0, 0, 0, i % 3);
        });
        calls.put("draw", (x, i) -> x.draw(0, i));
        calls.put("turn", (x, i) -> {
            if (i == 0) {
                x.draw(0, 1);
            }
            x.turn();
        });
        calls.put("standard", (x, i) -> x.standard(0));
        calls.put("fillings", (x, i) -> {
            if (i == 0) {
                x.shape(0, Checks.packed(6, 4, 2, 2, 1, 1));
            }
            x.fillings(0, 0);
        });
        calls.put("coefficient", (x, i) -> x.coefficient(1, 2, 0));
        calls.put("character", (x, i) -> x.character(3, 3));
        return calls;
    }
}
