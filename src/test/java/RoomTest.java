import java.lang.management.ManagementFactory;

/** What a run makes is counted: an object keeps to a small room, and its calls make nothing. */
public final class RoomTest {
    // Some 4,300 fields and elements of four bytes at most, and the heads of some 80 objects and arrays.
    private static final long OBJECT_BYTES = 24000;
    // Far below one object or array a call.
    private static final long CALL_BYTES = 4000;
    private static final int CALLS = 400;

    private RoomTest() {
    }

    public static void main(String[] args) {
        dearCalls(told(), CALLS);
        long before = made();
        PulseGrid grid = new PulseGrid();
        long object = made() - before;
        Check.due("a new object makes " + object + " bytes, too many", object > OBJECT_BYTES, false);
        grid = told();
        before = made();
        dearCalls(grid, CALLS);
        long calls = made() - before;
        Check.due(CALLS + " rounds of calls make " + calls + " bytes, too many", calls > CALL_BYTES, false);
        Check.finish("RoomTest");
    }

    private static long made() {
        return ((com.sun.management.ThreadMXBean) ManagementFactory.getThreadMXBean()).getCurrentThreadAllocatedBytes();
    }

    private static PulseGrid told() {
        PulseGrid grid = new PulseGrid();
        Check.write(grid, "size 10 10; let x = x(-1,0) + x(0,-1) * 2 + x(-2,3) edge i - j; let y = x(0,0) < y(-1,-1);");
        grid.loop();
        return grid;
    }

    private static int dearCalls(PulseGrid grid, int rounds) {
        int all = 0;
        for (int k = 0; k < rounds; k++) {
            all += grid.fire(1 + k % 9, k % 3) + grid.onto(1, k % 2) + grid.broken(k % 10, true) + grid.busy(k % 10, 4);
            all += grid.wrong() + grid.wrongAt(k) + grid.pair(1 + k % 4, 0) + grid.best(1 + k % 9, 1) + grid.line(1);
            all += grid.tiles(1 + k % 10, 3, 3) + grid.tiling(10, 0) + grid.stirs(0, k % 10, 3) + grid.hangs(k % 10, 0);
            all += grid.total(1, 2) + grid.law() + grid.critical() + grid.fewest(k, true) + grid.image(k % 2) + grid.flow(k, 1);
            all += grid.undo() ? grid.plan(k % 7) : grid.back(0);
            all += grid.feed(k, k, k, k, k) + grid.loop() + grid.fault(0);
        }
        return all;
    }
}
