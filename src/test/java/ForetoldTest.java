/** Promises 18 to 29: what it comes to, and images. */
public final class ForetoldTest {
    private static final Check C = new Check();

    private static void dueSpan(CountedLists x, int a, int b, int... sourcesAndAmounts) {
        for (int k = 0; k < 6; k++) {
            C.due("source of " + k + " from " + a + " to " + b, x.span(a, b, k, 0), sourcesAndAmounts[2 * k]);
            C.due("amount of " + k + " from " + a + " to " + b, x.span(a, b, k, 1), sourcesAndAmounts[2 * k + 1]);
        }
    }

    private static void spanPromise18() {
        CountedLists x = Check.told("n0,0,0;t0,9;i1,0;i1,0;r2,7;h0,0;c2,0;r0,4;i0,0;h2,1;");
        dueSpan(x, 0, 0, 0, 0, 1, 0, 2, 0, 3, 0, 4, 0, 5, 0);
        dueSpan(x, 0, 2, 0, 0, 1, 2, -1, 0, 3, 0, 4, 0, 5, 0);
        dueSpan(x, 1, 3, 0, 0, 1, 2, -1, 7, 3, 0, 4, 0, 5, 0);
        dueSpan(x, 1, 4, -1, 0, -1, 0, -1, 0, 0, 0, 1, 2, -1, 7);
        dueSpan(x, 2, 5, 0, 0, 1, 1, -1, 8, 0, 0, 1, 1, -1, 7);
        dueSpan(x, 5, 5, 3, 0, 4, 0, 5, 1, 3, 0, 4, 0, 5, 0);
        dueSpan(x, 5, 7, -1, 5, -1, 0, -1, 0, 3, 0, 4, 0, 5, 0);
        dueSpan(x, 7, 8, -1, 0, -1, 0, -1, 0, 0, 1, -1, 0, -1, 0);
        C.due("a above b", x.span(1, 0, 0, 0), Check.BAD);
        C.due("no such a", x.span(-1, 0, 0, 0), Check.BAD);
        C.due("no such b", x.span(0, 9, 0, 0), Check.BAD);
        C.due("x 6", x.span(0, 0, 6, 0), Check.BAD);
        C.due("x -1", x.span(0, 0, -1, 0), Check.BAD);
        C.due("what 2", x.span(0, 0, 0, 2), Check.BAD);
        C.due("what -1", x.span(0, 0, 0, -1), Check.BAD);
    }

    private static void registerPromise19() {
        // 10, -, 9, 9.A, -, 1, 1, 1.A, 2
        CountedLists x = Check.told("n0,3,0;r0,10;t0,0;r0,9;i1,0;h0,0;r0,1;r0,1;i1,0;i0,0;");
        int[] due = {5, 6, 7, 0, 8, 2, 3};
        for (int k = 0; k < due.length; k++) {
            C.due("register(" + k + ")", x.register(k), due[k]);
        }
        C.due("not so many", x.register(7), Check.NONE);
        C.due("not so many", x.register(Integer.MAX_VALUE), Check.NONE);
        C.due("k below 0", x.register(-1), Check.BAD);
        CountedLists y = Check.told("n1,0,0;r0,2;r0,20;i0,0;i0,0;i0,0;i0,0;i0,0;i0,0;i0,0;r0,0;");
        // b t u v w x y z aa 0
        int[] letters = {9, 8, 0, 1, 2, 3, 4, 5, 6, 7};
        for (int k = 0; k < letters.length; k++) {
            C.due("register of letters " + k, y.register(k), letters[k]);
        }
        C.due("of a text alone", Check.told("n0,0,0;t0,0;").register(0), Check.NONE);
        CountedLists z = Check.told("n0,0,0;i0,0;r0,19;");
        C.due("1 ahead of 19", z.register(0), 0);
        z.change(1, 2, 0, 1);
        z.put(0, 2, 0, 15);
        z.change(1, 2, 0, 1);
        C.due("1 ahead of 1", z.register(0), 1);
        C.due("1 ahead of 15", z.register(1), 2);
        C.due("15 at last", z.register(2), 0);
    }

    private static void bearsPromise20() {
        CountedLists x = Check.told("n0,2,0;t0,0;i0,0;r1,4;i0,0;r0,1;r1,4;");
        Check.fill(x, 0, "!1.iv2");
        C.due("1.iv", x.bears(0, 1, 4), 2);
        C.due("1", x.bears(0, 1, 1), 1);
        C.due("2", x.bears(0, 5, 1), 3);
        C.due("1.i is none", x.bears(0, 1, 3), Check.NONE);
        C.due("1.iv2 is none", x.bears(0, 1, 5), Check.NONE);
        Check.fill(x, 1, 2, '1', '.' + 65536);
        C.due("codes of an int row", x.bears(1, 0, 1), 1);
        C.due("a code beyond all", x.bears(1, 0, 2), Check.NONE);
        x.take(0);
        C.due("the first of all, after a finding", x.bears(5, 0, 1) + x.bears(0, 1, 1), Check.NULL);
        C.due("status", x.status(), 0);
        x.undo();
        C.due("n 0", x.bears(0, 0, 0), Check.BAD);
        C.due("n 41", x.bears(0, 0, 41), Check.BAD);
        C.due("n 40", x.bears(0, 0, 40), Check.PLACE);
        C.due("row 8", x.bears(8, 0, 1), Check.BAD);
        C.due("row -1", x.bears(-1, 0, 1), Check.BAD);
        C.due("BAD is ahead of NULL", x.bears(5, 0, 0), Check.BAD);
        C.due("missing", x.bears(5, -1, 1), Check.NULL);
        C.due("i below 0", x.bears(0, -1, 1), Check.PLACE);
        C.due("beyond the end", x.bears(0, 6, 1), Check.PLACE);
        C.due("beyond the end", x.bears(0, Integer.MAX_VALUE, 2), Check.PLACE);
    }

    private static void changedPromise21() {
        CountedLists x = Check.told("n0,0,0;i0,0;i1,0;h0,0;i0,0;t0,0;c1,0;i1,0;r0,9;i0,0;");
        // 1, 1.1, -, 1, -, 1.2, 1.3, 9, 10
        C.due("changed(0): 1.1, 1.2, 1.3", x.changed(0), 3);
        C.due("changed(1): 1.2, 1.3", x.changed(1), 2);
        C.due("changed(2): 1, 1.2, 1.3", x.changed(2), 3);
        C.due("changed(3): none", x.changed(3), 0);
        C.due("changed(4): none", x.changed(4), 0);
        C.due("changed(7): 10", x.changed(7), 1);
        C.due("changed(8): none", x.changed(8), 0);
        C.due("nothing changes", x.count(1), 9);
        C.due("no such one", x.changed(9), Check.BAD);
        C.due("no such one", x.changed(-1), Check.BAD);
        CountedLists y = Check.told("n0,0,0;i0,0;");
        C.due("the only one", y.changed(0), Check.STATE);
        C.due("BAD is ahead of STATE", y.changed(1), Check.BAD);
    }

    private static void nearestPromise22() {
        CountedLists x = Check.told("n0,0,0;i0,0;i0,0;i0,0;r0,2;i0,0;t0,0;h0,0;");
        // 1 2 3 2 3 - -
        C.due("where it is", x.nearest(4, 3), 4);
        C.due("a restart is the same everywhere", x.nearest(3, 2), 3);
        C.due("nearest(4, 4)", x.nearest(4, 4), 3);
        C.due("nearest(4, 1)", x.nearest(4, 1), 6);
        C.due("nearest(0, 3)", x.nearest(0, 3), 2);
        C.due("nearest(0, 4)", x.nearest(0, 4), 4);
        C.due("none", x.nearest(0, 9), Check.NONE);
        C.due("a text", x.nearest(5, 0), Check.NONE);
        C.due("a head", x.nearest(6, 0), Check.NONE);
        C.due("nothing changes", Check.shown(x), "i0,0=1 i0,0=2 i0,0=3 r0,2=2 i0,0=3 t0,0= h0,0=");
        C.due("v 99", x.nearest(0, 99), Check.NONE);
        C.due("v 100", x.nearest(0, 100), Check.BAD);
        C.due("v -1", x.nearest(0, -1), Check.BAD);
        C.due("v 100 of a text", x.nearest(5, 100), Check.BAD);
        C.due("no such one", x.nearest(7, 0), Check.BAD);
        C.due("no such one", x.nearest(-1, 0), Check.BAD);
        CountedLists y = Check.told("n0,0,0;h0,0;t0,0;i0,0;r0,0;c1,0;i0,0;");
        C.due("behind another item alone", y.nearest(2, 2), 5);
        // It would be 1 at 1 and at 3, both one place off.
        CountedLists z = Check.told("n0,0,0;r0,0;i0,0;i0,0;r0,0;i0,0;");
        C.due("as near on both sides: the lesser", z.nearest(2, 1), 1);
        CountedLists first = Check.told("n0,0,0;i0,0;i0,0;");
        C.due("the place ahead of all", first.nearest(1, 1), 0);
        C.due("the place behind all", first.nearest(0, 2), 1);
    }

    private static void setsPromise23() {
        CountedLists x = Check.told("n0,0,0;i0,0;i1,0;t0,0;i0,0;h0,0;r2,0;i2,0;r1,20;");
        C.due("sets(1)", x.sets(1), 1 | 2 | 64);
        C.due("sets(2)", x.sets(2), 8);
        C.due("sets(0): no texts, no heads", x.sets(0), 32);
        C.due("sets(20)", x.sets(20), 128);
        C.due("sets(99)", x.sets(99), 0);
        C.due("sets(100)", x.sets(100), Check.BAD);
        C.due("sets(-1)", x.sets(-1), Check.BAD);
    }

    private static void deepestPromise24() {
        CountedLists x = Check.told("n2,0,0;i0,0;r0,8;t2,0;i1,0;r0,8;i1,0;");
        C.due("deepest(0): viii.1 and viii.1", x.deepest(0), 6);
        C.due("deepest(1): the first", x.deepest(1), 3);
        C.due("what 2", x.deepest(2), Check.BAD);
        C.due("what -1", x.deepest(-1), Check.BAD);
        CountedLists y = Check.told("n0,0,0;t0,0;h0,0;");
        C.due("none", y.deepest(0), Check.NONE);
        C.due("none", y.deepest(1), Check.NONE);
        CountedLists z = Check.told("n0,0,0;i0,0;i0,0;");
        C.due("one sign", z.deepest(0), 1);
        C.due("of paragraph 0", z.deepest(1), 0);
    }

    private static void whoPromise25() {
        CountedLists x = Check.told("n0,0,0;i0,0;r0,1;i1,0;h0,0;");
        // 1, 1, 1, -
        Check.fill(x, 0, 0, 1, 1, 1, 0);
        C.due("kinds of the restart", x.who(1, 0, 0, 0, 4), 1 << 2 | 1 << 3);
        C.due("kinds, if less is told", x.who(1, 0, 0, 0, 1), 62);
        C.due("levels of the restart", x.who(1, 1, 0, 0, 2), 7);
        C.due("levels of the restart", x.who(1, 1, 0, 0, 4), 1 | 4);
        C.due("starts of the restart", x.who(1, 2, 0, 0, 4), 2);
        C.due("starts of an item", x.who(0, 2, 0, 0, 4), 2097151);
        C.due("kinds of the head", x.who(3, 0, 0, 0, 4), 1 << 2 | 1 << 4 | 1 << 5);
        C.due("kinds of one that is not told of", x.who(3, 0, 0, 0, 3), 62);
        C.due("from i on", x.who(3, 0, 0, 1, 3), 0);
        x.set(0, 3, 7);
        C.due("none fits", x.who(3, 0, 0, 0, 4), 0);
        C.due("n 0", x.who(0, 0, 0, 0, 0), Check.BAD);
        C.due("n above the paragraphs", x.who(0, 0, 0, 0, 5), Check.BAD);
        C.due("which 3", x.who(0, 3, 0, 0, 1), Check.BAD);
        C.due("which -1", x.who(0, -1, 0, 0, 1), Check.BAD);
        C.due("row 8", x.who(0, 0, 8, 0, 1), Check.BAD);
        C.due("no such one", x.who(4, 0, 0, 0, 1), Check.BAD);
        C.due("no such one", x.who(-1, 0, 0, 0, 1), Check.BAD);
        C.due("BAD is ahead of NULL", x.who(0, 0, 5, 0, 5), Check.BAD);
        C.due("missing", x.who(0, 0, 5, -1, 1), Check.NULL);
        C.due("i below 0", x.who(0, 0, 0, -1, 1), Check.PLACE);
        C.due("beyond the end", x.who(0, 0, 0, 2, 3), Check.PLACE);
        C.due("nothing changes", Check.shown(x), "i0,0=1 r0,1=1 i1,0=1.1 h0,0=");
        CountedLists y = Check.told("n0,0,0;r2,3;");
        Check.fill(y, 0, 1, 3);
        C.due("levels of one alone", y.who(0, 1, 0, 0, 1), 7);
    }

    private static void dueLost(CountedLists x, int paragraph, int v, int p, long above, long below) {
        C.due("lost(" + paragraph + ", " + v + ", " + p + ", 0)", x.lost(paragraph, v, p, 0), above);
        C.due("lost(" + paragraph + ", " + v + ", " + p + ", 1)", x.lost(paragraph, v, p, 1), below);
    }

    private static void lostPromise26() {
        CountedLists x = Check.told("n0,0,0;r0,5;i0,0;");
        dueLost(x, 1, 6, 3, 7, 10);
        dueLost(x, 1, 2, 3, 3, 10);
        dueLost(x, 1, 9, 3, 0, 1);
        dueLost(x, 1, 6, 0, 1, 1);
        dueLost(x, 1, 2, 0, 0, 1);
        dueLost(x, 1, 2, 10, 1, 1);
        dueLost(x, 1, 6, 4, 3, 5);
        CountedLists y = Check.told("n0,0,0;r0,3;r0,3;r0,3;r0,3;r0,3;t0,0;h0,0;t1,0;");
        dueLost(y, 4, 3, 5, 1, 2);
        dueLost(y, 4, 4, 5, 1, 4);
        dueLost(y, 4, 5, 5, 5, 32);
        dueLost(y, 4, 7, 5, 1, 32);
        dueLost(y, 5, 7, 5, 1, 32);
        dueLost(y, 6, 0, 5, 1, 1);
        dueLost(y, 0, 1, 1, 1, 10);
        dueLost(y, 4, 7, 1, 9, 100000);
        y.put(8, 2, 0, 0);
        C.due("more than 5 restarts", y.lost(0, 1, 1, 0), Check.FULL);
        C.due("BAD is ahead of FULL", y.lost(0, 1, 11, 0), Check.BAD);
        C.due("no such one", x.lost(2, 0, 0, 0), Check.BAD);
        C.due("no such one", x.lost(-1, 0, 0, 0), Check.BAD);
        C.due("v 100", x.lost(0, 100, 0, 0), Check.BAD);
        C.due("v -1", x.lost(0, -1, 0, 0), Check.BAD);
        C.due("p 11", x.lost(0, 0, 11, 0), Check.BAD);
        C.due("p -1", x.lost(0, 0, -1, 0), Check.BAD);
        C.due("what 2", x.lost(0, 0, 0, 2), Check.BAD);
        C.due("what -1", x.lost(0, 0, 0, -1), Check.BAD);
        dueLost(x, 0, 99, 5, 0, 1);
        C.due("nothing changes", Check.shown(x), "r0,5=5 i0,0=6");
    }

    private static int mostDrawn(CountedLists x) {
        int most = 0;
        for (int seed = 1; seed <= 300; seed++) {
            most = Math.max(most, x.drawn(60, seed, 0));
        }
        return most;
    }

    private static void edits() {
        for (int seed = 2; seed < 40; seed++) {
            String text = "n0,0,0;r0,5;h0,0;c1,7;";
            C.dueEdits(Check.told(text), Check.told(text), seed);
        }
    }

    private static void drawnPromise27() {
        // By seed 9 X is 151263, odd, then 394793594: a head of level 0 that begins at 16.
        CountedLists x = Check.told("n0,0,0;i0,0;");
        C.due("none", x.drawn(0, 9, 0), 1);
        C.due("none", x.drawn(0, 9, 1), 1);
        C.due("the only one stays", x.drawn(1, 9, 0), 1);
        C.due("one comes in", x.drawn(2, 9, 0), 2);
        C.due("ahead of the item", x.drawn(2, 9, 1), 1);
        CountedLists y = Check.told("n0,0,0;r0,5;r0,7;i0,0;");
        C.due("the middle one is taken out", y.drawn(1, 9, 0), 2);
        C.due("so that 6 is counted", y.drawn(1, 9, 1), 6);
        C.due("nothing changes", y.count(1), 3);
        C.due("no act", y.count(4), 0);
        C.due("seed 1: X is 16807, odd", y.drawn(1, 1, 0), 2);
        C.due("seed 999999", y.drawn(60, 999999, 0) > 0 ? 1 : 0, 1);
        C.due("60 edits stay within 24", mostDrawn(y) <= 24 ? 1 : 0, 1);
        edits();
        C.due("n -1", x.drawn(-1, 9, 0), Check.BAD);
        C.due("n 61", x.drawn(61, 9, 0), Check.BAD);
        C.due("seed 0", x.drawn(1, 0, 0), Check.BAD);
        C.due("seed 1000000", x.drawn(1, 1000000, 0), Check.BAD);
        C.due("what 2", x.drawn(1, 1, 2), Check.BAD);
        C.due("what -1", x.drawn(1, 1, -1), Check.BAD);
    }

    private static void imagePromises28And29() {
        CountedLists x = Check.told("n0,0,0;r0,5;i1,0;");
        C.due("no image yet", x.restore(0), Check.STATE);
        C.due("image(0)", x.image(0), 1);
        C.due("image(2)", x.image(2), Check.BAD);
        C.due("image(-1)", x.image(-1), Check.BAD);
        String first = Check.shown(x);
        x.style(0, 2);
        x.take(0);
        x.change(0, 3, 2, 8);
        C.due("image(1)", x.image(1), 1);
        C.due("acts stay at an image", x.count(4), 3);
        String second = Check.shown(x);
        C.due("restore(0)", x.restore(0), 1);
        C.due("shown", Check.shown(x), first);
        C.due("no act can be undone", x.undo(), Check.STATE);
        x.put(0, 1, 0, 0);
        C.due("restore(1)", x.restore(1), 1);
        C.due("shown", Check.shown(x), second);
        C.due("the style too", x.style(0, 0), 2);
        C.due("another sheet", Check.tell(x, "n0,0,0;t0,0;"), 1);
        C.due("images stay", x.restore(0), 1);
        C.due("shown", Check.shown(x), first);
        x.take(1);
        C.due("an image does not change", x.restore(0), 1);
        C.due("shown", Check.shown(x), first);
        C.due("image in place of another", x.take(0) + x.image(0), 2);
        x.put(0, 4, 0, 0);
        x.restore(0);
        C.due("shown", Check.shown(x), "i1,0=0.1");
        C.due("restore(2)", x.restore(2), Check.BAD);
        C.due("restore(-1)", x.restore(-1), Check.BAD);
    }

    public static void main(String[] args) {
        spanPromise18();
        registerPromise19();
        bearsPromise20();
        changedPromise21();
        nearestPromise22();
        setsPromise23();
        deepestPromise24();
        whoPromise25();
        lostPromise26();
        drawnPromise27();
        imagePromises28And29();
        C.end();
    }
}
