import java.lang.management.ManagementFactory;

/** All calls live in one room: what an object and its dearest calls make is counted in bytes. */
public final class RoomTest {
    private static final int OBJECT_BYTES = 32_000, CALLS_BYTES = 64_000;
    private static final com.sun.management.ThreadMXBean THREADS =
        (com.sun.management.ThreadMXBean) ManagementFactory.getThreadMXBean();

    private static long made() { return THREADS.getCurrentThreadAllocatedBytes(); }

    private static int text(HeartHours x, String text) {
        for (int i = 0; i < text.length(); i++) x.feed(text.charAt(i), 1);
        return x.rules();
    }

    private static int dearest(HeartHours x) {
        int sum = 0;
        for (int i = 0; i < 20; i++) {
            sum += x.best(4) + x.ith(4, 3) + x.ways(4) + x.charter(4, 63) + x.bars(4, 63) + x.game(4) + x.play(4);
            sum += x.giftFor(0) + x.dueFor(1) + x.cause(0) + x.liar() + x.times(40, 20) + x.on(16) + x.right(1);
            sum += x.prove(4) + x.judge() + x.errands(30, 1) + x.queues(-1) + x.keep() + x.again();
            sum += x.sheet(0, 3, 40) + x.shelf(0, 0, 3) + x.act(0, 3, 7) + x.remake(3, 1 + i % 5);
        }
        return sum;
    }

    public static void main(String[] args) {
        new HeartHours();
        made();
        long before = made();
        HeartHours x = new HeartHours();
        long object = made() - before;
        for (int k = 0; k < 6; k++) x.guild(1 + k % 5, 6 * k, k, k);
        for (int r = 0; r < 6; r++) x.report(15, 0, 10 * r, 10 * r);
        String rules = "baker if late > 6 wait; lawyer if (gift<1 or mood>8) and not hour=3 leave; guild if number = 9 wait; book if mood<1 leave;";
        int read = text(x, rules);
        before = made();
        int sum = dearest(x);
        int again = text(x, rules);
        long calls = made() - before;
        System.out.println("an object makes " + object + " bytes, 480 dear calls " + calls + " (sum " + sum + ", rules " + read + " " + again + ")");
        if (read != 4 || again != 4 || object > OBJECT_BYTES || calls > CALLS_BYTES) System.exit(1);
    }
}
