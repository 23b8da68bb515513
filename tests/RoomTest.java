import com.sun.management.ThreadMXBean;
import java.lang.management.ManagementFactory;

/**
 * All calls of one run live in one room (some 600,000 objects and arrays, 7.3 million fields and elements), so
 * that what the dearest calls make is weighed: 512 of them, and a new inn, must be less than all of it.
 */
public final class RoomTest {
    private static final long MOST_BYTES = 4 * 7_300_000;
    private static final String[] CALLS = {"order", "tell", "often", "look", "ask", "may, when, pen", "decades", "read", "read of a fault",
        "image, from", "nights, undo", "comes, goes", "inn, one", "seen, note, mark, forget", "rain, part", "digest, count"};
    private static final ThreadMXBean THREADS = (ThreadMXBean) ManagementFactory.getThreadMXBean();

    public static void main(String[] args) {
        Due.promise("one room for all calls");
        Inns.full();
        for (int sort = 0; sort < CALLS.length; sort++) {
            InnTurned x = Inns.full();
            long before = made();
            for (int k = 0; k < 250; k++) call(x, sort, k % 7);
            long calls = made() - before;
            Due.holds(CALLS[sort] + " made " + calls + " bytes", calls < MOST_BYTES);
        }
        long before = made();
        InnTurned x = new InnTurned();
        Due.holds("a new inn", made() - before < MOST_BYTES / 200 && x.count(0) == 0);
        Due.end();
    }

    private static long made() {
        return THREADS.getCurrentThreadAllocatedBytes();
    }

    private static long call(InnTurned x, int sort, int i) {
        switch (sort) {
            case 0: return x.order(i) + x.order(-1);
            case 1: return x.tell(i) + x.tell(i);
            case 2: return x.often(i, 0) + x.often(i, 1);
            case 3: return x.look(i) + x.is(i);
            case 4: return x.ask() + x.kinds();
            case 5: return i % 3 == 0 ? x.may() : i % 3 == 1 ? x.when(i) : x.pen(i);
            case 6: return x.decades(i, 60) + x.decades(999999 - i, 60);
            case 7: return x.read() + x.read();
            case 8: return i == 0 ? x.clear() : x.read() + x.type(';');
            case 9: return x.image(i % 2) + x.from(i % 2);
            case 10: return x.nights(i + 1) + x.undo();
            case 11: return x.comes(i) + x.goes(i);
            case 12: return i == 6 ? x.inn(1, 1) : x.one(i, i);
            case 13: return x.seen(i, i, i, 0) + (i == 6 ? x.forget(0) : x.note(i, i, i, i, i));
            case 14: return x.rain(i, i) + x.part(0);
            default: return x.digest() + x.count(3);
        }
    }
}
