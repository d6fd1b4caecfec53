import java.lang.management.ManagementFactory;

/** All calls of a run share one room: 512 of the dearest calls must make next to nothing. */
public final class RoomTest {
    private static final Due due = new Due("RoomTest");
    private static final String DEAREST = "200,40;g99,w99,h99,b99;1,2a,3b,4c,5d,9";

    private interface Call {
        int on(SummerWall x, int k);
    }

    public static void main(String[] args) {
        SummerWall x = new SummerWall();
        for (char c : DEAREST.toCharArray()) {
            x.type(c);
        }
        x.bargain();
        x.sheet(0, 3, 24);
        Call[] calls = {
            (y, k) -> y.odds(), (y, k) -> y.oddsAt(0, 0), (y, k) -> y.sure(1000000), (y, k) -> y.pace(0, 1000000), (y, k) -> y.plan(0, 0),
            (y, k) -> y.best(k % 6, 1), (y, k) -> y.soonest(1), (y, k) -> y.mean(6, 0), (y, k) -> y.image() + y.restore(),
            (y, k) -> y.film(1, 24, 0, 3, 0), (y, k) -> y.weather(0, 3, 0, 8, -1), (y, k) -> y.sheet(1, k % 4, 24), (y, k) -> y.copy(0, 0, 0, 1, 23),
            (y, k) -> y.drift(1) + y.undo(), (y, k) -> y.use(k % 6) + y.undo(),
        };
        for (int c = 0; c < calls.length; c++) {
            calls[c].on(x, 0);
            long before = made();
            for (int k = 0; k < 512; k++) {
                calls[c].on(x, k);
            }
            long bytes = made() - before;
            due.that("call " + c + " made " + bytes + " bytes in 512 times", bytes < 64 * 1024);
        }
        long before = made();
        new SummerWall();
        long bytes = made() - before;
        due.that("a new object takes " + bytes + " bytes", bytes < 64 * 1024);
        due.end();
    }

    private static long made() {
        com.sun.management.ThreadMXBean bean = (com.sun.management.ThreadMXBean) ManagementFactory.getThreadMXBean();
        return bean.getThreadAllocatedBytes(Thread.currentThread().getId());
    }
}
