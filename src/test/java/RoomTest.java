import java.lang.management.ManagementFactory;

/** All calls of a run live in one room: an object is small, and its calls make next to nothing. */
public final class RoomTest {
    // A room has some 7.3 million fields and elements, of four bytes or more: a quarter of it is plenty for one object.
    private static final long MOST_BYTES = 7300000;

    private static CountedLists full() {
        CountedLists x = Check.told("n2,2,2;r0,17;r1,17;r2,17;i2,0;h0,0;c2,0;r2,8;r2,18;t0,0;i1,0;i0,0;");
        for (int place = 12; place <= 24; place++) {
            x.put(place - 1, 1, 2, 0);
        }
        Check.fill(x, 0, 2, 17, 17, 17, 18, 0, 19, 8, 18, 0, 18, 18, 1, 2, 3, 4, 5, 6, 7, 8, 9, 10, 11, 12, 13);
        return x;
    }

    private static long callsOf(CountedLists x) {
        long sum = 0;
        for (int i = 0; i < 30; i++) {
            sum += x.who(i % 24, i % 3, 0, 0, 24) + x.lost(i % 24, i, 3, 0) + x.drawn(60, 1 + i, 1);
            sum += x.register(i) + x.changed(i % 24) + x.nearest(i % 24, i) + x.sets(i) + x.deepest(1);
            sum += x.bears(0, 0, 5) + x.span(0, 23, 2, 1) + x.ask(i % 24, 0) + x.called(23, i % 24, 0);
        }
        return sum;
    }

    public static void main(String[] args) {
        var thread = (com.sun.management.ThreadMXBean) ManagementFactory.getThreadMXBean();
        long sum = callsOf(full());
        long before = thread.getCurrentThreadAllocatedBytes();
        sum -= callsOf(full());
        long taken = thread.getCurrentThreadAllocatedBytes() - before;
        System.out.println("an object and 360 of its dearest calls took " + taken + " bytes");
        if (taken > MOST_BYTES || sum != 0) {
            System.exit(1);
        }
    }
}
