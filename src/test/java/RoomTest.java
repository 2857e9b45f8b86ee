import com.sun.management.ThreadMXBean;
import java.lang.management.ManagementFactory;

/** All calls of a run live in one room: an object is small, and its calls make nothing. */
public final class RoomTest {
    // A room has some 7.3 million fields and elements, of four bytes or more: there is room for a thousand objects.
    private static final long MOST_OF_AN_OBJECT = 7300000 * 4 / 1000;
    private static final ThreadMXBean THREAD = (ThreadMXBean) ManagementFactory.getThreadMXBean();
    private static final int ROUNDS = 10;

    // So that the machine cannot leave out a call whose answer nobody looks at.
    private static long answers = 0;

    private static long taken() {
        return THREAD.getCurrentThreadAllocatedBytes();
    }

    private static CountedLists full() {
        CountedLists x = Check.told("n2,2,2;r0,17;r1,17;r2,17;i2,0;h0,0;c2,0;r2,8;r2,18;t0,0;i1,0;i0,0;");
        for (int place = 12; place <= 24; place++) {
            x.put(place - 1, 1, 2, 0);
        }
        Check.fill(x, 0, 2, 17, 17, 17, 18, 0, 19, 8, 18, 0, 18, 18, 1, 2, 3, 4, 5, 6, 7, 8, 9, 10, 11, 12, 13);
        return x;
    }

    private static long foretold(CountedLists x, int i) {
        return x.who(i, i % 3, 0, 0, 24) + x.lost(i, i, 3, i % 2) + x.drawn(60, 1 + i, 1) + x.register(i) + x.changed(i)
            + x.nearest(i, i) + x.sets(i) + x.deepest(1) + x.bears(0, 0, 5) + x.span(0, 23, 2, 1) + x.called(23, i, 0)
            + x.label(i, 0, 0) + x.paragraph(i, 5) + x.kind(i) + x.as(i, 0) + x.ask(i, 0) + x.trace(0);
    }

    private static long acts(CountedLists x, int i) {
        return x.take(i) + x.put(i, 1, 0, 0) + x.move(i, 23 - i) + x.change(i, 2, 2, 20) + x.style(0, 1) + x.undo()
            + x.image(0) + x.restore(0) + x.row(1, 2, 40) + x.set(1, 39, 5) + x.copy(1, 0, 1, 1, 39) + x.drop(1)
            + x.feed('n') + x.sheet() + x.fault() + x.count(3) + x.status();
    }

    private static void callsOf(CountedLists x) {
        for (int i = 0; i < ROUNDS; i++) {
            answers += foretold(x, i) + acts(x, i);
        }
    }

    private static void most(String what, long taken, long most) {
        System.out.println(what + " took " + taken + " bytes");
        if (taken > most) {
            System.out.println("the most is " + most);
            System.exit(1);
        }
    }

    public static void main(String[] args) {
        // Once ahead, so that the machine has loaded all there is to load.
        callsOf(full());
        taken();
        long before = taken();
        CountedLists x = new CountedLists();
        long behind = taken();
        most("an object", behind - before, MOST_OF_AN_OBJECT);
        answers += x.count(1);
        CountedLists full = full();
        before = taken();
        callsOf(full);
        behind = taken();
        most("every call of the face, " + ROUNDS + " times,", behind - before, 0);
    }
}
