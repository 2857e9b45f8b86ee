/** Promises 30 to 34: kinds, asks, the trace, counts. */
public final class AskedTest {
    private static final Check C = new Check();
    private static final String ALL = "n0,0,0;i0,3;r1,4;c0,5;t2,6;h1,7;";

    private static void kindPromise30() {
        CountedLists x = Check.told(ALL);
        for (int p = 0; p < 5; p++) {
            C.due("kind(" + p + ")", x.kind(p), p + 1);
        }
        C.due("kind(5)", x.kind(5), Check.BAD);
        C.due("kind(-1)", x.kind(-1), Check.BAD);
    }

    private static void asPromise31() {
        CountedLists x = Check.told(ALL);
        String[] fits = {"110000", "111000", "110100", "100010", "100011"};
        for (int p = 0; p < 5; p++) {
            for (int kind = 0; kind < 6; kind++) {
                boolean so = fits[p].charAt(kind) == '1';
                C.due("as(" + p + ", " + kind + ")", x.as(p, kind), so ? p : Check.KIND);
                C.due("status of as(" + p + ", " + kind + ")", x.status(), so ? 0 : 3);
            }
        }
        C.due("kind 6", x.as(0, 6), Check.BAD);
        C.due("kind -1", x.as(0, -1), Check.BAD);
        C.due("no such one", x.as(5, 0), Check.BAD);
        C.due("no such one", x.as(-1, 0), Check.BAD);
    }

    private static void dueAsk(CountedLists x, int one, int what, int answer, int... bodies) {
        String call = "ask(" + one + ", " + what + ")";
        C.due(call, x.ask(one, what), answer);
        for (int i = 0; i < bodies.length; i++) {
            C.due("trace(" + i + ") of " + call, x.trace(i), bodies[i]);
        }
        C.due("the end of the trace of " + call, x.trace(bodies.length), Check.NONE);
    }

    private static void askPromises32And33() {
        CountedLists x = Check.told(ALL);
        C.due("no trace yet", x.trace(0), Check.NONE);
        // Counts of their own level: 1, 4, 1, -, -.
        dueAsk(x, 0, 0, 3 + 1, 11, 10, 21, 20);
        dueAsk(x, 1, 0, -(4 + 2 * (1 + 4)), 12, 11, 10, 24, 21, 20);
        dueAsk(x, 2, 0, 5 + (2 + 1 - 1000), 11, 10, 22, 21, 20);
        dueAsk(x, 3, 0, 6 - 100, 13, 10);
        dueAsk(x, 4, 0, 2 * (7 - 100), 14, 13, 10);
        dueAsk(x, 0, 1, 0 + 1, 21, 20);
        dueAsk(x, 1, 1, 2 * (1 + 4), 24, 21, 20);
        dueAsk(x, 2, 1, 2 + 1 - 1000, 22, 21, 20);
        dueAsk(x, 3, 1, 3 - (6 - 100), 23, 20, 13, 10);
        dueAsk(x, 4, 1, 4 - 2 * (7 - 100), 23, 20, 14, 13, 10);
        C.due("what 2", x.ask(0, 2), Check.BAD);
        C.due("what -1", x.ask(0, -1), Check.BAD);
        C.due("no such one", x.ask(5, 0), Check.BAD);
        C.due("no such one", x.ask(-1, 0), Check.BAD);
        C.due("an ask that is BAD leaves the trace", x.trace(4), 10);
        C.due("trace(-1)", x.trace(-1), Check.NONE);
        C.due("trace(16)", x.trace(16), Check.NONE);
        C.due("trace of the greatest", x.trace(Integer.MAX_VALUE), Check.NONE);
    }

    private static void countPromise34() {
        CountedLists x = new CountedLists();
        x.row(0, 0, 1);
        x.row(7, 0, 1);
        x.row(7, 1, 0);
        x.row(3, 0, 1);
        x.drop(0);
        C.due("rows", x.count(0), 2);
        Check.tell(x, "n0,0,0;r0,5;r1,6;t0,0;r2,7;t1,0;");
        C.due("paragraphs", x.count(1), 5);
        C.due("labels", x.count(2), 3);
        C.due("counts of the last one", x.count(3), 18);
        x.take(4);
        x.change(3, 3, 2, 0);
        C.due("counts of the last one", x.count(3), 1);
        C.due("labels", x.count(2), 3);
        C.due("acts", x.count(4), 2);
        x.feed('n');
        C.due("bytes", x.count(5), 1);
        C.due("count(6)", x.count(6), Check.BAD);
        C.due("count(-1)", x.count(-1), Check.BAD);
    }

    public static void main(String[] args) {
        kindPromise30();
        asPromise31();
        askPromises32And33();
        countPromise34();
        C.end();
    }
}
