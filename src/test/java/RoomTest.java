import java.lang.management.ManagementFactory;

/** All calls of one run live in one room: an object is made small, and its calls make nothing. */
public final class RoomTest {
    private static final long MOST_FOR_AN_OBJECT = 40_000;
    private static final int CALLS = 400;

    public static void main(String[] args) {
        com.sun.management.ThreadMXBean threads =
                (com.sun.management.ThreadMXBean) ManagementFactory.getThreadMXBean();
        long self = Thread.currentThread().getId();
        work(new WindCarver(), 1);
        long begin = threads.getThreadAllocatedBytes(self);
        WindCarver x = new WindCarver();
        long made = threads.getThreadAllocatedBytes(self);
        work(x, CALLS);
        long end = threads.getThreadAllocatedBytes(self);
        Check.due("bytes of an object stay below the most", made - begin <= MOST_FOR_AN_OBJECT, true);
        // What measuring itself makes is far less than one byte a call would be.
        Check.due("calls make nothing", end - made < 20 * CALLS, true);
        Check.end();
    }

    private static void work(WindCarver x, int times) {
        for (int i = 0; i < times; i++) {
            for (int at = 0; at < TEXT.length(); at++) {
                x.feed(TEXT.charAt(at));
            }
            x.pass();
            x.row(i % 8, i % 3, 40);
            x.copy(i % 8, 0, i % 8, 1, 39);
            x.hours(20);
            x.undo();
            x.walls(15, 99, -1);
            x.lots(15, 9, 3, 0);
            x.hidden(5, 0, i % 8, 0);
            x.stands(i % 8, 0);
            x.felt(15, 40);
            x.breaks(0);
            x.most(0, 0);
            x.image(0);
            x.restore(0);
            x.ask(4, 0);
            x.count(4);
        }
    }

    private static final String TEXT = "a0,0,0,0;b1,0,0,0;n1,0,99;w1,1,99;s1,2,99;h2,0,99;v2,1,99;n3,3,99;";
}
