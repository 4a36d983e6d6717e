import java.lang.management.ManagementFactory;
import java.util.function.IntConsumer;

/** What a run makes must stay small, however dear its calls are: nothing is ever given back. */
public final class RoomTests {
    /** A tenth of the 7.3 million elements, were they all of eight bytes. */
    private static final long ALLOWED_BYTES = 8L * 730_000;
    private static final int CALLS = 512;

    public static void main(String[] args) {
        Due due = new Due();
        stays(due, "a put and a flush in turn", RoomTests::putAndFlush);
        stays(due, "whole merges", RoomTests::mergeWholly);
        stays(due, "steps", RoomTests::mergeByStep);
        due.finish();
    }

    private static void putAndFlush(int calls) {
        LevelTables x = new LevelTables();
        for (int i = 0; i + 3 <= calls; i += 3) {
            x.feed(i * 0x9e3779b9, i, i, i, i);
            x.put(i, 1);
            x.flush();
        }
    }

    private static void mergeWholly(int calls) {
        LevelTables x = filled(calls / 4);
        for (int i = calls / 2 + 1; i < calls; i++) {
            x.merge(true);
        }
    }

    private static void mergeByStep(int calls) {
        LevelTables x = filled(calls / 8);
        for (int i = calls / 4 + 1; i + 4 <= calls; i += 4) {
            x.feed(i * 0x9e3779b9, i, i, i, i);
            x.put(i, 1);
            x.flush();
            x.merge(false);
        }
    }

    private static LevelTables filled(int puts) {
        LevelTables x = new LevelTables();
        for (int i = 0; i < puts; i++) {
            x.feed(i * 0x9e3779b9, i, i, i, i);
            x.put(i, 1);
        }
        x.flush();
        return x;
    }

    private static void stays(Due due, String what, IntConsumer run) {
        var threads = (com.sun.management.ThreadMXBean) ManagementFactory.getThreadMXBean();
        run.accept(CALLS);
        long before = threads.getCurrentThreadAllocatedBytes();
        run.accept(CALLS);
        long made = threads.getCurrentThreadAllocatedBytes() - before;
        System.out.println(what + ": " + made + " bytes");
        due.compare(what + " stays small", "true", Boolean.toString(made < ALLOWED_BYTES));
    }
}
