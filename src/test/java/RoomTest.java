import com.sun.management.ThreadMXBean;
import java.lang.management.ManagementFactory;

/** What the dearest runs make must stay small: no field or element has less than a byte. */
public final class RoomTest {
    private static final long MOST_BYTES = 2000000;
    private static final String LETTERS = "abcdefghijklmnopqrstuvwxyz0123456789";
    private static final ThreadMXBean THREADS = (ThreadMXBean) ManagementFactory.getThreadMXBean();

    public static void main(String[] args) {
        oneMore();
        for (int kind = 0; kind < 4; kind++) {
            long before = made();
            SearchEngine engine = new SearchEngine(3);
            long made = made() - before;
            if (made > 100000) {
                Calls.due("bytes of a new engine", made, 100000);
            }
            for (int call = 0; call < 512; call++) {
                act(engine, kind, call);
            }
            made = made() - before;
            if (made > MOST_BYTES) {
                Calls.due("bytes of run " + kind, made, MOST_BYTES);
            }
            System.out.println("run " + kind + " made " + made + " bytes");
        }
        Calls.end("RoomTest");
    }

    // The first reading makes what the bean itself needs.
    private static void oneMore() {
        made();
        new SearchEngine(0).feed(0, 0, 1);
    }

    private static long made() {
        return THREADS.getCurrentThreadAllocatedBytes();
    }

    private static void act(SearchEngine engine, int kind, int call) {
        if (kind == 0) {
            engine.add(call, 0, 0);
        } else if (kind == 1) {
            manyTerms(engine, call);
        } else if (kind == 2) {
            manyMerges(engine, call);
        } else {
            manySearches(engine, call);
        }
    }

    private static long fourTerms(int call) {
        long bytes = 0;
        for (int i = 0; i < 8; i++) {
            int sign = i % 2 == 1 ? ' ' : LETTERS.charAt((call + i * 7) % 36);
            bytes = bytes << 8 | sign;
        }
        return bytes;
    }

    private static void manyTerms(SearchEngine engine, int call) {
        if (call % 25 == 24) {
            engine.add(call, 0, 0);
        } else {
            long zero = call % 25 == 0 ? ~(255L << 48) : -1;
            engine.feed(fourTerms(call) & zero, fourTerms(call + 3), 16);
        }
    }

    private static void manyMerges(SearchEngine engine, int call) {
        if (call % 3 == 0) {
            engine.feed(fourTerms(call) & ~255L, fourTerms(call / 36), 16);
        } else if (call % 3 == 1) {
            engine.add(call, 0, 0);
        } else {
            engine.refresh();
        }
    }

    private static void manySearches(SearchEngine engine, int call) {
        if (call < 300) {
            engine.add(call, 0, 0);
        } else if (call == 300) {
            engine.open();
        } else if (call % 2 == 1) {
            engine.feed(0x5b78203020305d20L, 0x61207c20622a2020L, 16);
        } else {
            engine.search(0);
        }
    }
}
