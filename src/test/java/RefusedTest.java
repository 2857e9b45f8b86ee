import java.util.ArrayList;
import java.util.List;

/**
 * Every call with every mix of arguments at the edges and at the ends of int, in states from a new object to
 * a full one: none throws, each answers as the plain model does, and what is refused, found or foretold
 * changes nothing but status().
 */
public final class RefusedTest {
    private static final int LEAST = Integer.MIN_VALUE, GREATEST = Integer.MAX_VALUE;
    // So many calls that change nothing are looked at together; more would go beyond an object's 512.
    private static final int TOGETHER = 24;

    /** What brings a new object into a state. */
    interface State {
        void reach(Answers x);
    }

    private static long wrong = 0;
    private static long calls = 0;

    private final String name;
    private final State state;
    private final Visible untouched;
    private Answers x;
    private Answers model;
    private List<String> sinceFresh;

    private RefusedTest(String name, State state) {
        this.name = name;
        this.state = state;
        untouched = Visible.of(reached(new ModelAnswers()));
        begin();
        look("nothing", untouched);
    }

    private Answers reached(Answers one) {
        state.reach(one);
        return one;
    }

    private void begin() {
        x = reached(new ClassAnswers());
        model = reached(new ModelAnswers());
        sinceFresh = new ArrayList<>();
    }

    private static void report(String what) {
        wrong++;
        if (wrong < 20) {
            System.out.println(what);
        }
    }

    private void look(String calls, Visible due) {
        Visible got = Visible.of(x);
        if (!got.equals(due)) {
            report(name + ": behind " + calls + got.unlike(due));
        }
        begin();
    }

    /** Behind calls that change nothing all stands as ahead of them, but for status(). */
    private void lookAtUnchanged(long status) {
        look(sinceFresh.toString(), new Visible(status, untouched.rest()));
    }

    /** A call that acts, and was not refused, may change what is visible. */
    private static boolean mayChange(Call call, long answer) {
        if (answer <= Check.BAD && answer >= Check.STORE) {
            return false;
        }
        switch (call) {
            case ROW: case SET: case COPY: case DROP: case FEED: case SHEET: case UNDO: case PUT: case TAKE: case MOVE:
            case CHANGE: case STYLE: case IMAGE: case RESTORE: case ASK:
                return true;
            default:
                return false;
        }
    }

    private void one(Call call, int... a) {
        long status = model.to(Call.STATUS);
        long due = model.to(call, a);
        boolean changes = mayChange(call, due);
        if (changes && !sinceFresh.isEmpty()) {
            // What came ahead is looked at by itself, lest this call hides what it did.
            lookAtUnchanged(status);
            model.to(call, a);
        }
        long got = x.to(call, a);
        calls++;
        sinceFresh.add(call.with(a));
        if (got != due) {
            report(name + ": " + call.with(a) + " answered " + got + ", due is " + due);
        }
        if (changes) {
            look(call.with(a), Visible.of(model));
        } else if (sinceFresh.size() >= TOGETHER) {
            lookAtUnchanged(model.to(Call.STATUS));
        }
    }

    /** The call with every mix of one value of each list. */
    private void all(Call call, int[]... edges) {
        int[] a = new int[edges.length];
        mix(call, edges, a, 0);
    }

    private void mix(Call call, int[][] edges, int[] a, int at) {
        if (at == edges.length) {
            one(call, a.clone());
            return;
        }
        for (int v : edges[at]) {
            a[at] = v;
            mix(call, edges, a, at + 1);
        }
    }

    private static int[] edges(int least, int most) {
        return new int[] {LEAST, least - 1, least, most, most + 1, GREATEST};
    }

    private void calls() {
        int many = (int) model.to(Call.COUNT, 1);
        int[] row = {LEAST, -1, 0, 1, 2, 7, 8, GREATEST};
        int[] one = edges(0, Math.max(0, many - 1));
        int[] place = {LEAST, -1, 0, 2, 3, 39, 40, GREATEST};
        int[] what = edges(0, 1);
        int[] kind = edges(1, 5);
        int[] level = edges(0, 2);
        int[] begin = edges(0, 20);
        int[] number = {LEAST, -1, 0, 1, 2, 99, 100, GREATEST};
        all(Call.ROW, row, edges(0, 2), new int[] {LEAST, -1, 0, 1, 40, 41, GREATEST});
        all(Call.SET, row, place, new int[] {LEAST, -1, 0, 127, 128, 32767, 32768, GREATEST});
        all(Call.COPY, row, new int[] {LEAST, -1, 0, 3, GREATEST}, row, new int[] {LEAST, 0, 2, 40, GREATEST},
            new int[] {LEAST, -1, 0, 1, 3, 4, 40, GREATEST});
        all(Call.DROP, row);
        all(Call.FEED, edges(0, 255));
        all(Call.SHEET);
        all(Call.FAULT);
        all(Call.UNDO);
        all(Call.PUT, edges(0, many), kind, level, begin);
        all(Call.TAKE, one);
        all(Call.MOVE, one, edges(0, Math.max(0, many - 1)));
        all(Call.CHANGE, one, kind, level, begin);
        all(Call.STYLE, level, edges(0, 3));
        all(Call.PARAGRAPH, one, edges(0, 5));
        all(Call.LABEL, one, level, new int[] {LEAST, -1, 0, 1, 22, 23, GREATEST});
        all(Call.CALLED, one, one, new int[] {LEAST, -1, 0, 1, 22, 23, GREATEST});
        all(Call.SPAN, one, one, edges(0, 5), what);
        all(Call.REGISTER, new int[] {LEAST, -1, 0, 1, many - 1, many, GREATEST});
        all(Call.BEARS, row, place, new int[] {LEAST, 0, 1, 3, 40, 41, GREATEST});
        all(Call.CHANGED, one);
        all(Call.NEAREST, one, number);
        all(Call.SETS, number);
        all(Call.DEEPEST, what);
        all(Call.WHO, one, edges(0, 2), row, new int[] {LEAST, -1, 0, 2, 40, GREATEST},
            new int[] {LEAST, 0, 1, many, many + 1, 24, 25, GREATEST});
        all(Call.LOST, one, number, edges(0, 10), what);
        all(Call.DRAWN, edges(0, 60), edges(1, 999999), what);
        all(Call.IMAGE, what);
        all(Call.RESTORE, what);
        all(Call.KIND, one);
        all(Call.AS, one, edges(0, 5));
        all(Call.ASK, one, what);
        all(Call.TRACE, edges(0, 16));
        all(Call.COUNT, edges(0, 5));
        all(Call.STATUS);
        lookAtUnchanged(model.to(Call.STATUS));
    }

    private static void feed(Answers x, String text) {
        for (char letter : text.toCharArray()) {
            x.to(Call.FEED, letter);
        }
    }

    private static void threeRows(Answers x) {
        x.to(Call.ROW, 0, 0, 3);
        for (int i = 0; i < 3; i++) {
            x.to(Call.SET, 0, i, i + 5);
        }
        x.to(Call.ROW, 1, 1, 0);
        x.to(Call.ROW, 2, 2, 40);
        x.to(Call.SET, 2, 3, 9);
    }

    // So that a call that loses them is seen: each state has a fault, a finding, and, if there can be, a trace, acts.
    private static void faultAndFinding(Answers x) {
        feed(x, "n0,5");
        x.to(Call.SHEET);
        x.to(Call.DROP, 7);
    }

    private static void withoutSheet(Answers x) {
        threeRows(x);
        faultAndFinding(x);
        feed(x, "n0,0");
    }

    private static void withoutActs(Answers x) {
        feed(x, "n1,2,3;t1,0;i0,9;");
        x.to(Call.SHEET);
        x.to(Call.ASK, 0, 1);
        faultAndFinding(x);
    }

    private static void oneParagraphAndFullTape(Answers x) {
        feed(x, "n3,0,0;r0,3;");
        x.to(Call.SHEET);
        x.to(Call.IMAGE, 1);
        x.to(Call.ASK, 0, 0);
        x.to(Call.PUT, 0, 5, 2, 9);
        x.to(Call.TAKE, 0);
        faultAndFinding(x);
        for (int n = 0; n < 26; n++) {
            feed(x, n == 0 ? "n1,1;" : "i0,0;");
        }
    }

    private static void someOfAllKinds(Answers x) {
        threeRows(x);
        feed(x, "n0,1,2;i0,3;r1,4;c2,5;t2,6;h1,7;");
        x.to(Call.SHEET);
        x.to(Call.IMAGE, 0);
        x.to(Call.PUT, 2, 2, 2, 9);
        x.to(Call.STYLE, 1, 3);
        x.to(Call.MOVE, 0, 4);
        faultAndFinding(x);
        feed(x, "n0,0,0;i1");
        x.to(Call.ASK, 1, 0);
    }

    /** 24 paragraphs; each so many-th of those put in is a restart. */
    private static void full(Answers x, int restartEach) {
        threeRows(x);
        feed(x, "n2,3,1;r0,7;i1,0;h0,2;");
        x.to(Call.SHEET);
        x.to(Call.IMAGE, 1);
        for (int n = 3; n < 24; n++) {
            int[] others = {1, 3, 4, 5};
            x.to(Call.PUT, n - 1, n % restartEach == 0 ? 2 : others[n % 4], n % 3, n - 3);
        }
        for (int v = 0; v < 4; v++) {
            x.to(Call.STYLE, v % 3, v);
        }
        x.to(Call.ASK, 0, 1);
        faultAndFinding(x);
        feed(x, "n0,0,0;i0,0;");
    }

    public static void main(String[] args) {
        new RefusedTest("a new object", x -> { }).calls();
        new RefusedTest("without a sheet", RefusedTest::withoutSheet).calls();
        new RefusedTest("without acts", RefusedTest::withoutActs).calls();
        new RefusedTest("one paragraph, a full tape", RefusedTest::oneParagraphAndFullTape).calls();
        new RefusedTest("some of all kinds", RefusedTest::someOfAllKinds).calls();
        new RefusedTest("full, with more than 5 restarts", x -> full(x, 4)).calls();
        new RefusedTest("full, with few restarts", x -> full(x, 7)).calls();
        System.out.println(calls + " calls at the edges, " + wrong + " wrong");
        if (wrong != 0) {
            System.exit(1);
        }
    }
}
