/** The edges of what is asked: the fourth part of the Terms, promises 30 to 34, a test for each sentence. */
public final class AskedEdgesTest {
    private static final Check C = new Check();
    private static final int LEAST = Integer.MIN_VALUE, GREATEST = Integer.MAX_VALUE;
    private static final String ALL = "n0,1,2;i0,3;r1,4;c2,5;t2,6;h1,7;";
    private static final int[] NO_ONE_OF_FIVE = {LEAST, -1, 5, 6, GREATEST};

    private static void kindOfThoseThatThereAre() {
        CountedLists x = Check.told(ALL);
        for (int one : NO_ONE_OF_FIVE) {
            C.due("no paragraph " + one, x.kind(one), Check.BAD);
        }
        C.due("the first", x.kind(0), 1);
        C.due("the last", x.kind(4), 5);
        x.take(4);
        C.due("no more", x.kind(4), Check.BAD);
        C.due("the last of 24", Check.upTo43(0).kind(23), 1);
        C.due("none behind 24", Check.upTo43(0).kind(24), Check.BAD);
    }

    private static void asHasKinds0To5() {
        CountedLists x = Check.told(ALL);
        x.as(4, 1);
        for (int kind : new int[] {LEAST, -1, 6, 7, GREATEST}) {
            C.due("no kind " + kind, x.as(0, kind), Check.BAD);
            C.due("no kind " + kind + " of a head", x.as(4, kind), Check.BAD);
        }
        for (int one : NO_ONE_OF_FIVE) {
            C.due("no paragraph " + one, x.as(one, 0), Check.BAD);
            C.due("no paragraph " + one + ", ahead of KIND", x.as(one, 5), Check.BAD);
        }
        C.due("BAD leaves the status", x.status(), 3);
        C.due("all are paragraphs", x.as(4, 0), 4);
        C.due("without a finding", x.status(), 0);
    }

    private static void asGoesUpNotDown() {
        CountedLists x = Check.told(ALL);
        int[][] fits = {{0, 1}, {0, 1, 2}, {0, 1, 3}, {0, 4}, {0, 4, 5}};
        for (int one = 0; one < 5; one++) {
            boolean[] fine = new boolean[6];
            for (int kind : fits[one]) {
                fine[kind] = true;
            }
            for (int kind = 0; kind <= 5; kind++) {
                C.due(one + " as " + kind, x.as(one, kind), fine[kind] ? one : Check.KIND);
                C.due(one + " as " + kind + ": status", x.status(), fine[kind] ? 0 : 3);
            }
        }
    }

    private static void askHasTwo() {
        CountedLists x = Check.told(ALL);
        C.due("SIZE", x.ask(0, 0), 4);
        for (int what : new int[] {LEAST, -1, 2, GREATEST}) {
            C.due("what " + what, x.ask(0, what), Check.BAD);
        }
        for (int one : NO_ONE_OF_FIVE) {
            C.due("no paragraph " + one, x.ask(one, 0), Check.BAD);
            C.due("no paragraph " + one, x.ask(one, 1), Check.BAD);
        }
        C.due("refusals leave the trace", x.trace(0), 11);
        C.due("to its end", x.trace(3), 20);
        C.due("to its end", x.trace(4), Check.NONE);
    }

    private static void askAtTheLimits() {
        CountedLists x = Check.upTo43(0);
        C.due("MARK of the first", x.ask(0, 1), 2 * (0 + 20));
        C.due("MARK of the last", x.ask(23, 1), 23 + 43);
        C.due("SIZE of the first", x.ask(0, 0), -(20 + 2 * (0 + 20)));
        x.change(23, 5, 2, 20);
        C.due("SIZE of a head", x.ask(23, 0), 2 * (20 - 100));
        C.due("MARK of a head", x.ask(23, 1), 23 - 2 * (20 - 100));
        x.change(23, 4, 0, 0);
        C.due("SIZE of a text", x.ask(23, 0), -100);
        C.due("MARK of a text", x.ask(23, 1), 23 + 100);
        x.change(23, 3, 2, 20);
        C.due("SIZE of a resumed one", x.ask(23, 0), 20 + (23 + 1 - 1000));
    }

    private static void theTraceBeginsAnew() {
        CountedLists x = Check.told(ALL);
        C.due("empty at first", x.trace(0), Check.NONE);
        x.ask(1, 0);
        C.due("six bodies: the last", x.trace(5), 20);
        C.due("six bodies: no more", x.trace(6), Check.NONE);
        x.ask(0, 1);
        C.due("of the latest ask alone", x.trace(0), 21);
        C.due("of the latest ask alone", x.trace(1), 20);
        C.due("of the latest ask alone", x.trace(2), Check.NONE);
        x.take(0);
        x.sheet();
        Check.tell(x, "n0,0,0;t0,0;");
        C.due("other calls leave it", x.trace(1), 20);
    }

    private static void theTraceHasNoOtherNumbers() {
        CountedLists x = Check.told(ALL);
        x.ask(1, 0);
        for (int i : new int[] {LEAST, -1, 6, 15, 16, 17, GREATEST}) {
            C.due("trace(" + i + ")", x.trace(i), Check.NONE);
        }
    }

    private static void countHasSix() {
        CountedLists x = Check.told(ALL);
        for (int what : new int[] {LEAST, -1, 6, 7, GREATEST}) {
            C.due("count(" + what + ")", x.count(what), Check.BAD);
        }
    }

    private static void countOfNothing() {
        CountedLists x = new CountedLists();
        for (int what = 0; what < 6; what++) {
            C.due("count(" + what + ") of a new object", x.count(what), 0);
        }
        CountedLists y = Check.told("n0,0,0;t0,0;");
        int[] due = {0, 1, 0, 0, 0, 0};
        for (int what = 0; what < 6; what++) {
            C.due("count(" + what + ") of one text", y.count(what), due[what]);
        }
    }

    private static void countOfAll() {
        CountedLists x = Check.upTo43(0);
        x.style(0, 1);
        x.style(0, 2);
        for (int row = 0; row < 8; row++) {
            x.row(row, 0, 0);
        }
        for (int n = 0; n < 131; n++) {
            x.feed('i');
        }
        int[] due = {8, 24, 24, 43, 24, 130};
        for (int what = 0; what < 6; what++) {
            C.due("count(" + what + ") of a full one", x.count(what), due[what]);
        }
    }

    private static void countOfTheLastOne() {
        C.due("all levels together", Check.told("n0,0,0;r0,20;r1,20;r2,20;").count(3), 60);
        C.due("of a text what is now", Check.told("n0,0,0;r0,20;t0,0;").count(3), 20);
        C.due("of a head nothing", Check.told("n0,0,0;r0,20;h0,0;").count(3), 0);
        C.due("not what is kept", Check.told("n0,0,0;r0,20;h0,0;i1,0;").count(3), 1);
        C.due("labels of items alone", Check.told(ALL).count(2), 3);
    }

    public static void main(String[] args) {
        kindOfThoseThatThereAre();
        asHasKinds0To5();
        asGoesUpNotDown();
        askHasTwo();
        askAtTheLimits();
        theTraceBeginsAnew();
        theTraceHasNoOtherNumbers();
        countHasSix();
        countOfNothing();
        countOfAll();
        countOfTheLastOne();
        C.end();
    }
}
