import java.util.ArrayList;
import java.util.List;

/**
 * Every call with every mix of arguments at the edges and at the ends of int, in states from a new object to
 * a full one: none throws, each answers as the plain model does, and what is refused, found or foretold
 * changes nothing but status().
 */
public final class RefusedTest {
    private static final int LEAST = Integer.MIN_VALUE, GREATEST = Integer.MAX_VALUE;
    // So many calls that change nothing are looked at together; more would go beyond an object's 512.
    private static final int TOGETHER = 24;

    /** What brings a new object into a state. */
    interface State {
        void reach(Answers x);
    }

    private static long wrong = 0;
    private static long calls = 0;

    private final String name;
    private final State state;
    private final Visible untouched;
    private Answers x;
    private Answers model;
    private List<String> sinceFresh;
    private boolean changed;

    private RefusedTest(String name, State state) {
        this.name = name;
        this.state = state;
        untouched = Visible.of(reached(new ClassAnswers()));
        begin();
    }

    private Answers reached(Answers one) {
        state.reach(one);
        return one;
    }

    private void begin() {
        x = reached(new ClassAnswers());
        model = reached(new ModelAnswers());
        sinceFresh = new ArrayList<>();
        changed = false;
    }

    private static void report(String what) {
        wrong++;
        if (wrong < 20) {
            System.out.println(what);
        }
    }

    private void look() {
        Visible got = Visible.of(x);
        Visible due = Visible.of(model);
        if (!got.equals(due)) {
            report(name + ": behind " + sinceFresh + " stands\n" + got + "\ndue is\n" + due);
        }
        if (!changed && !got.rest().equals(untouched.rest())) {
            report(name + ": one of " + sinceFresh + " changes\n" + untouched + "\nto\n" + got);
        }
        begin();
    }

    /** A call that acts, and was not refused, may change what is visible. */
    private static boolean mayChange(Call call, long answer) {
        if (answer <= CountedLists.BAD && call != Call.SHEET) {
            return false;
        }
        switch (call) {
            case ROW: case SET: case COPY: case DROP: case FEED: case SHEET: case UNDO: case PUT: case TAKE: case MOVE:
            case CHANGE: case STYLE: case IMAGE: case RESTORE: case ASK:
                return true;
            default:
                return false;
        }
    }

    private void one(Call call, int... a) {
        long due = model.to(call, a);
        long got = x.to(call, a);
        calls++;
        sinceFresh.add(call.with(a));
        changed = mayChange(call, due);
        if (got != due) {
            report(name + ": " + call.with(a) + " answered " + got + ", due is " + due);
        }
        if (changed || sinceFresh.size() >= TOGETHER) {
            look();
        }
    }

    /** The call with every mix of one value of each list. */
    private void all(Call call, int[]... edges) {
        int[] a = new int[edges.length];
        mix(call, edges, a, 0);
    }

    private void mix(Call call, int[][] edges, int[] a, int at) {
        if (at == edges.length) {
            one(call, a.clone());
            return;
        }
        for (int v : edges[at]) {
            a[at] = v;
            mix(call, edges, a, at + 1);
        }
    }

    private static int[] edges(int least, int most) {
        return new int[] {LEAST, least - 1, least, most, most + 1, GREATEST};
    }

    private void calls() {
        int many = (int) x.to(Call.COUNT, 1);
        begin();
        int[] row = {LEAST, -1, 0, 1, 2, 7, 8, GREATEST};
        int[] one = edges(0, Math.max(0, many - 1));
        int[] place = {LEAST, -1, 0, 2, 3, 39, 40, GREATEST};
        int[] what = edges(0, 1);
        int[] kind = edges(1, 5);
        int[] level = edges(0, 2);
        int[] begin = edges(0, 20);
        int[] number = {LEAST, -1, 0, 1, 2, 99, 100, GREATEST};
        all(Call.ROW, row, edges(0, 2), new int[] {LEAST, -1, 0, 1, 40, 41, GREATEST});
        all(Call.SET, row, place, new int[] {LEAST, -1, 0, 127, 128, 32767, 32768, GREATEST});
        all(Call.COPY, row, new int[] {LEAST, -1, 0, 3, GREATEST}, row, new int[] {LEAST, 0, 2, 40, GREATEST},
            new int[] {LEAST, -1, 0, 1, 3, 4, 40, GREATEST});
        all(Call.DROP, row);
        all(Call.FEED, edges(0, 255));
        all(Call.SHEET);
        all(Call.FAULT);
        all(Call.UNDO);
        all(Call.PUT, edges(0, many), kind, level, begin);
        all(Call.TAKE, one);
        all(Call.MOVE, one, edges(0, Math.max(0, many - 1)));
        all(Call.CHANGE, one, kind, level, begin);
        all(Call.STYLE, level, edges(0, 3));
        all(Call.PARAGRAPH, one, edges(0, 5));
        all(Call.LABEL, one, level, new int[] {LEAST, -1, 0, 1, 22, 23, GREATEST});
        all(Call.CALLED, one, one, new int[] {LEAST, -1, 0, 1, 22, 23, GREATEST});
        all(Call.SPAN, one, one, edges(0, 5), what);
        all(Call.REGISTER, new int[] {LEAST, -1, 0, 1, many - 1, many, GREATEST});
        all(Call.BEARS, row, place, new int[] {LEAST, 0, 1, 3, 40, 41, GREATEST});
        all(Call.CHANGED, one);
        all(Call.NEAREST, one, number);
        all(Call.SETS, number);
        all(Call.DEEPEST, what);
        all(Call.WHO, one, edges(0, 2), row, new int[] {LEAST, -1, 0, 2, 40, GREATEST},
            new int[] {LEAST, 0, 1, many, many + 1, 24, 25, GREATEST});
        all(Call.LOST, one, number, edges(0, 10), what);
        all(Call.DRAWN, edges(0, 60), edges(1, 999999), what);
        all(Call.IMAGE, what);
        all(Call.RESTORE, what);
        all(Call.KIND, one);
        all(Call.AS, one, edges(0, 5));
        all(Call.ASK, one, what);
        all(Call.TRACE, edges(0, 16));
        all(Call.COUNT, edges(0, 5));
        all(Call.STATUS);
        look();
    }

    private static void feed(Answers x, String text) {
        for (char letter : text.toCharArray()) {
            x.to(Call.FEED, letter);
        }
    }

    private static void threeRows(Answers x) {
        x.to(Call.ROW, 0, 0, 3);
        for (int i = 0; i < 3; i++) {
            x.to(Call.SET, 0, i, i + 5);
        }
        x.to(Call.ROW, 1, 1, 0);
        x.to(Call.ROW, 2, 2, 40);
        x.to(Call.SET, 2, 3, 9);
    }

    private static void withoutSheet(Answers x) {
        threeRows(x);
        feed(x, "n0,5");
        x.to(Call.SHEET);
        feed(x, "n0,0");
        x.to(Call.SET, 0, 3, 1);
    }

    private static void oneParagraphAndFullTape(Answers x) {
        feed(x, "n3,0,0;r0,3;");
        x.to(Call.SHEET);
        x.to(Call.IMAGE, 1);
        x.to(Call.ASK, 0, 0);
        for (int n = 0; n < 26; n++) {
            feed(x, n == 0 ? "n1,1;" : "i0,0;");
        }
    }

    private static void someOfAllKinds(Answers x) {
        threeRows(x);
        feed(x, "n0,1,2;i0,3;r1,4;c2,5;t2,6;h1,7;");
        x.to(Call.SHEET);
        x.to(Call.IMAGE, 0);
        x.to(Call.PUT, 2, 2, 2, 9);
        x.to(Call.STYLE, 1, 3);
        x.to(Call.MOVE, 0, 4);
        feed(x, "n0,0,0;i1");
        x.to(Call.ASK, 1, 0);
        x.to(Call.AS, 0, 5);
    }

    private static void full(Answers x) {
        threeRows(x);
        feed(x, "n2,3,1;r0,7;i1,0;h0,2;");
        x.to(Call.SHEET);
        x.to(Call.IMAGE, 1);
        for (int n = 3; n < 24; n++) {
            x.to(Call.PUT, n - 1, n % 4 == 0 ? 2 : 1 + n % 5, n % 3, n - 3);
        }
        for (int v = 0; v < 4; v++) {
            x.to(Call.STYLE, v % 3, v);
        }
        feed(x, "n0,0,0;i0,0;");
        x.to(Call.DROP, 7);
    }

    public static void main(String[] args) {
        new RefusedTest("a new object", x -> { }).calls();
        new RefusedTest("without a sheet", RefusedTest::withoutSheet).calls();
        new RefusedTest("one paragraph, a full tape", RefusedTest::oneParagraphAndFullTape).calls();
        new RefusedTest("some of all kinds", RefusedTest::someOfAllKinds).calls();
        new RefusedTest("full", RefusedTest::full).calls();
        System.out.println(calls + " calls at the edges, " + wrong + " wrong");
        if (wrong != 0) {
            System.exit(1);
        }
    }
}
