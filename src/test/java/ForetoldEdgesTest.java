/** The edges of what is foretold: the third part of the Terms, promises 19 to 27, a test for each sentence. */
public final class ForetoldEdgesTest {
    private static final Check C = new Check();
    private static final int LEAST = Integer.MIN_VALUE, GREATEST = Integer.MAX_VALUE;
    private static final int[] NO_NUMBERS = {LEAST, -1, 100, 101, GREATEST};
    private static final int[] NO_ONE_OF_TWO = {LEAST, -1, 2, GREATEST};

    private static CountedLists restarts(int n) {
        return Check.told("n0,0,0;" + "r0,3;".repeat(n));
    }

    private static void dueRegister(String text, int... due) {
        CountedLists x = Check.told(text);
        for (int k = 0; k < due.length; k++) {
            C.due("register(" + k + ") of " + text, x.register(k), due[k]);
        }
        C.due("the end of the register of " + text, x.register(due.length), Check.NONE);
    }

    private static void registerHasSoMany() {
        CountedLists x = Check.upTo43(0);
        for (int k : new int[] {LEAST, -1}) {
            C.due("k " + k, x.register(k), Check.BAD);
        }
        for (int k = 0; k < 24; k++) {
            C.due("k " + k, x.register(k), k);
        }
        C.due("not so many", x.register(24), Check.NONE);
        C.due("not so many", x.register(GREATEST), Check.NONE);
        dueRegister("n0,0,0;t0,0;h0,0;");
        C.due("k below 0, ahead of NONE", Check.told("n0,0,0;t0,0;").register(-1), Check.BAD);
    }

    private static void registerIsInOrder() {
        dueRegister("n0,0,0;t0,0;i0,0;h0,0;", 1);
        // 2, 10: sign by sign
        dueRegister("n0,0,0;r0,2;r0,10;", 1, 0);
        // 1.1, 1, 10, 11: one that ends is ahead; . is ahead of figures
        dueRegister("n0,0,0;r0,10;r0,1;i1,0;r0,11;", 1, 2, 0, 3);
        // T, A, 0: figures are ahead of letters
        dueRegister("n3,0,0;r0,20;r0,1;r0,0;", 2, 1, 0);
        // like ones by their places
        dueRegister("n0,0,0;r0,1;r0,1;t0,0;r0,1;r0,0;r0,1;", 4, 0, 1, 3, 5);
        // great letters ahead of small ones: A.a, A.b
        dueRegister("n3,1,0;r0,1;r1,2;r1,1;", 0, 2, 1);
        // z, aa: sign by sign
        dueRegister("n1,0,0;r0,20;i0,0;i0,0;i0,0;i0,0;i0,0;i0,0;i0,0;", 7, 0, 1, 2, 3, 4, 5, 6);
        // i, ii, iii, iv, v, vi, ix, x
        dueRegister("n2,0,0;r0,10;r0,9;r0,6;r0,5;r0,4;r0,3;r0,2;r0,1;", 7, 6, 5, 4, 1, 3, 2, 0);
    }

    private static void bearsHas1To40Items() {
        CountedLists x = Check.told("n0,0,0;i0,0;i1,0;");
        x.row(0, 2, 40);
        for (int n : new int[] {LEAST, -1, 0, 41, GREATEST}) {
            C.due("n " + n, x.bears(0, 0, n), Check.BAD);
            C.due("n " + n + " is ahead of NULL", x.bears(5, 0, n), Check.BAD);
            C.due("n " + n + " is ahead of PLACE", x.bears(0, -1, n), Check.BAD);
        }
        C.due("40 items", x.bears(0, 0, 40), Check.NONE);
        x.set(0, 39, '1');
        C.due("one item, the last", x.bears(0, 39, 1), 0);
        x.set(0, 0, '1');
        x.set(0, 1, '.');
        x.set(0, 2, '1');
        C.due("one item, the first", x.bears(0, 0, 1), 0);
        C.due("three items", x.bears(0, 0, 3), 1);
        C.due("a label that goes on", x.bears(0, 0, 2), Check.NONE);
        C.due("a label that ends", x.bears(0, 0, 4), Check.NONE);
    }

    private static void bearsHasPlaces() {
        CountedLists x = Check.told("n0,0,0;i0,0;");
        Check.fill(x, 0, "1111");
        for (int i : new int[] {LEAST, LEAST + 1, -1, 4, 5, GREATEST - 1, GREATEST}) {
            C.due("i " + i, x.bears(0, i, 1), Check.PLACE);
            C.due("i " + i + " of 40", x.bears(0, i, 40), Check.PLACE);
            C.due("i " + i + ": status", x.status(), 2);
            C.due("NULL is ahead of PLACE", x.bears(7, i, 1), Check.NULL);
        }
        C.due("up to the end", x.bears(0, 2, 2), Check.NONE);
        C.due("beyond the end", x.bears(0, 3, 2), Check.PLACE);
        C.due("the last place", x.bears(0, 3, 1), 0);
        x.row(1, 0, 0);
        C.due("a row of no items", x.bears(1, 0, 1), Check.PLACE);
    }

    private static void bearsTellsTheFirst() {
        CountedLists x = Check.told("n1,0,0;t0,0;r0,2;r0,1;r0,2;r0,1;");
        Check.fill(x, 0, 2, 'a', 'b', 'c', 'a' + 256, 'a' + 65536, 'A', 0, -1);
        C.due("the first of two", x.bears(0, 0, 1), 2);
        C.due("the first of two", x.bears(0, 1, 1), 1);
        for (int i = 2; i < 8; i++) {
            C.due("item " + i + ": none", x.bears(0, i, 1), Check.NONE);
        }
        C.due("none is no finding", x.status(), 0);
        CountedLists y = Check.told("n0,0,0;t0,0;h0,0;");
        y.row(0, 0, 3);
        C.due("none has a label", y.bears(0, 0, 1), Check.NONE);
        CountedLists z = Check.upTo43(0);
        Check.fill(z, 0, "4344");
        C.due("the last of 24", z.bears(0, 0, 2), 23);
        C.due("none of 24", z.bears(0, 2, 2), Check.NONE);
    }

    private static void changedNeedsTwo() {
        CountedLists x = Check.told("n0,0,0;i0,0;i0,0;");
        for (int one : new int[] {LEAST, -1, 2, GREATEST}) {
            C.due("no paragraph " + one, x.changed(one), Check.BAD);
        }
        C.due("the first of two", x.changed(0), 1);
        C.due("the last of two", x.changed(1), 0);
        CountedLists y = Check.told("n0,0,0;i0,0;");
        C.due("the only one", y.changed(0), Check.STATE);
        for (int one : new int[] {LEAST, -1, 1, GREATEST}) {
            C.due("BAD is ahead of STATE", y.changed(one), Check.BAD);
        }
        CountedLists z = Check.upTo43(0);
        C.due("all others of 24", z.changed(0), 23);
        C.due("none of 24", z.changed(23), 0);
    }

    private static void changedCountsLabelsAlone() {
        C.due("texts have none", Check.told("n0,0,0;i0,0;t0,0;t0,0;i0,0;h0,0;t0,0;").changed(0), 1);
        C.due("the count is another, the label is not", Check.told("n0,0,0;i1,0;t0,0;r1,1;").changed(0), 0);
        C.due("a deeper one's label, too", Check.told("n0,0,0;i0,0;i1,0;i2,0;").changed(0), 2);
        C.due("itself is none of the others", Check.told("n0,0,0;t0,0;i0,0;").changed(1), 0);
    }

    private static void nearestHasNumbers0To99() {
        CountedLists x = Check.told("n0,0,0;i0,0;r0,0;t0,0;h0,0;");
        for (int v : NO_NUMBERS) {
            C.due("v " + v, x.nearest(0, v), Check.BAD);
            C.due("v " + v + " of a text, ahead of NONE", x.nearest(2, v), Check.BAD);
        }
        for (int one : new int[] {LEAST, -1, 4, GREATEST}) {
            C.due("no paragraph " + one, x.nearest(one, 0), Check.BAD);
        }
        C.due("v 0: there is a place", x.nearest(1, 0), 1);
        C.due("v 0: there is none", x.nearest(0, 0), Check.NONE);
        C.due("v 99", x.nearest(0, 99), Check.NONE);
        C.due("a text", x.nearest(2, 0), Check.NONE);
        C.due("a head, the last", x.nearest(3, 0), Check.NONE);
    }

    private static void nearestTakesTheNearest() {
        C.due("where it is", Check.told("n0,0,0;i0,0;i0,0;").nearest(1, 2), 1);
        C.due("where the only one is", Check.told("n0,0,0;r0,9;").nearest(0, 9), 0);
        C.due("the only one nowhere", Check.told("n0,0,0;r0,9;").nearest(0, 8), Check.NONE);
        C.due("the first place", Check.told("n0,0,0;r0,4;i0,0;i0,0;").nearest(2, 1), 0);
        C.due("the last place", Check.told("n0,0,0;i0,0;r0,4;i0,0;").nearest(0, 6), 2);
        // Behind any of the restarts it is 8; the nearest is one place off on either side.
        C.due("as near: the lesser", Check.told("n0,0,0;r0,7;i0,0;i0,0;r0,7;i0,0;").nearest(2, 8), 1);
        C.due("the greater, if that is nearer", Check.told("n0,0,0;r0,7;t0,0;t0,0;i0,0;i0,0;r0,7;").nearest(4, 8), 3);
        C.due("the greater, if that is nearer", Check.told("n0,0,0;r0,7;t0,0;r0,0;i0,0;i0,0;r0,7;").nearest(4, 8), 5);
        CountedLists x = Check.upTo43(0);
        C.due("the first of 24 at the last place", x.nearest(23, 1), 0);
        C.due("the last of 24", x.nearest(1, 43), 23);
    }

    private static void setsHasNumbers0To99() {
        CountedLists x = Check.upTo43(0);
        for (int v : NO_NUMBERS) {
            C.due("v " + v, x.sets(v), Check.BAD);
        }
        C.due("v 0", x.sets(0), 0);
        C.due("v 20: the first", x.sets(20), 1);
        C.due("v 43: the last of 24", x.sets(43), 1 << 23);
        C.due("v 44", x.sets(44), 0);
        C.due("v 99", x.sets(99), 0);
        CountedLists y = Check.told("n0,0,0;r0,0;t0,0;h0,0;r2,0;");
        C.due("0 of those that have a label", y.sets(0), 9);
        CountedLists z = Check.told("n0,0,0;" + "r1,5;".repeat(16));
        for (int n = 16; n < 24; n++) {
            z.put(n, 2, 2, 5);
        }
        C.due("all of 24", z.sets(5), (1 << 24) - 1);
    }

    private static void deepestTellsTheFirst() {
        CountedLists x = Check.told("n0,0,0;r0,10;r0,9;i1,0;r0,10;t0,0;i1,0;i1,0;");
        for (int what : NO_ONE_OF_TWO) {
            C.due("what " + what, x.deepest(what), Check.BAD);
        }
        C.due("how many signs", x.deepest(0), 4);
        C.due("which: the first of two", x.deepest(1), 5);
        CountedLists y = Check.told("n0,0,0;t0,0;h0,0;");
        C.due("there is none", y.deepest(0), Check.NONE);
        C.due("there is none", y.deepest(1), Check.NONE);
        C.due("BAD is ahead of NONE", y.deepest(2), Check.BAD);
        CountedLists z = Check.told("n0,0,0;r0,0;r0,0;");
        C.due("one sign", z.deepest(0), 1);
        C.due("the first", z.deepest(1), 0);
        C.due("the last of 16", Check.told("n0,0,0;" + "i0,0;".repeat(15) + "i2,0;").deepest(1), 15);
    }

    private static void whoHas1To24Items() {
        CountedLists x = Check.upTo43(0);
        x.row(0, 2, 40);
        for (int p = 0; p < 24; p++) {
            x.set(0, p, 20 + p);
        }
        C.due("24 items", x.who(0, 2, 0, 0, 24), 1 << 20);
        C.due("25 items", x.who(0, 2, 0, 0, 25), Check.BAD);
        C.due("1 item", x.who(0, 2, 0, 0, 1), 1 << 20);
        for (int n : new int[] {LEAST, -1, 0, 41, GREATEST}) {
            C.due("n " + n, x.who(0, 2, 0, 0, n), Check.BAD);
            C.due("n " + n + " is ahead of NULL", x.who(0, 2, 5, 0, n), Check.BAD);
        }
        x.take(23);
        C.due("as many as paragraphs", x.who(0, 2, 0, 0, 23), 1 << 20);
        C.due("more than paragraphs", x.who(0, 2, 0, 0, 24), Check.BAD);
        C.due("more than paragraphs, ahead of PLACE", x.who(0, 2, 0, -1, 24), Check.BAD);
    }

    private static void whoHasParagraphsAndPlaces() {
        CountedLists x = Check.told("n0,0,0;r0,2;i0,0;");
        Check.fill(x, 0, 0, 2, 3, 2, 3);
        for (int one : new int[] {LEAST, -1, 2, GREATEST}) {
            C.due("no paragraph " + one, x.who(one, 0, 0, 0, 1), Check.BAD);
        }
        for (int which : new int[] {LEAST, -1, 3, GREATEST}) {
            C.due("which " + which, x.who(0, which, 0, 0, 1), Check.BAD);
            C.due("which " + which + " is ahead of NULL", x.who(0, which, 6, 0, 1), Check.BAD);
        }
        for (int i : new int[] {LEAST, -1, 4, GREATEST - 1, GREATEST}) {
            C.due("i " + i, x.who(0, 0, 0, i, 1), Check.PLACE);
            C.due("i " + i + " of two", x.who(0, 0, 0, i, 2), Check.PLACE);
            C.due("i " + i + ": status", x.status(), 2);
            C.due("NULL is ahead of PLACE", x.who(0, 0, 6, i, 1), Check.NULL);
        }
        C.due("up to the end", x.who(0, 2, 0, 2, 2), 4);
        C.due("beyond the end", x.who(0, 2, 0, 3, 2), Check.PLACE);
    }

    private static void whoTellsAllThatFit() {
        CountedLists x = Check.told("n0,0,0;t1,1;i1,0;");
        Check.fill(x, 0, 0, 0, 1);
        C.due("kinds 1 to 5", x.who(1, 0, 0, 0, 1), 62);
        C.due("kinds without a label", x.who(0, 0, 0, 0, 2), 1 << 4 | 1 << 5);
        C.due("all levels", x.who(0, 1, 0, 0, 2), 7);
        C.due("all starts", x.who(0, 2, 0, 0, 2), (1 << 21) - 1);
        x.set(0, 0, 7);
        C.due("none", x.who(0, 0, 0, 0, 1), 0);
        CountedLists y = Check.told("n0,0,0;r2,5;i2,0;");
        Check.fill(y, 0, 2, 0, 1, 20, 21, -1, 256);
        C.due("start 0", y.who(0, 2, 0, 0, 2), 1);
        C.due("start 20", y.who(0, 2, 0, 2, 2), 1 << 20);
        C.due("no start 21", y.who(0, 2, 0, 3, 1), 0);
        C.due("no start -1", y.who(0, 2, 0, 4, 1), 0);
        C.due("no start 256", y.who(0, 2, 0, 5, 1), 0);
        C.due("0 of a text, too", y.who(0, 0, 0, 0, 1), 1 << 4 | 1 << 5);
    }

    private static void lostHasNumbersAndTenths() {
        CountedLists x = restarts(2);
        for (int one : new int[] {LEAST, -1, 2, GREATEST}) {
            C.due("no paragraph " + one, x.lost(one, 0, 0, 0), Check.BAD);
        }
        for (int v : NO_NUMBERS) {
            C.due("v " + v, x.lost(0, v, 0, 0), Check.BAD);
        }
        for (int p : new int[] {LEAST, -1, 11, GREATEST}) {
            C.due("p " + p, x.lost(0, 0, p, 0), Check.BAD);
        }
        for (int what : NO_ONE_OF_TWO) {
            C.due("what " + what, x.lost(0, 0, 0, what), Check.BAD);
        }
        C.due("v 99", x.lost(0, 99, 10, 1), 1);
    }

    private static void dueLost(CountedLists x, int one, int v, int p, long above, long below) {
        String call = "lost(" + one + ", " + v + ", " + p + ")";
        C.due(call + " above", x.lost(one, v, p, 0), above);
        C.due(call + " below", x.lost(one, v, p, 1), below);
    }

    private static void lostIsInLowestTerms() {
        CountedLists x = restarts(1);
        for (int p = 0; p <= 10; p++) {
            int[] below = {1, 10, 5, 10, 5, 2, 5, 10, 5, 10, 1};
            dueLost(x, 0, 1, p, p * below[p] / 10, below[p]);
            dueLost(x, 0, 3, p, (10 - p) * below[p] / 10, below[p]);
            dueLost(x, 0, 2, p, 0, 1);
        }
        CountedLists none = Check.told("n0,0,0;i0,0;t0,0;h0,0;");
        dueLost(none, 0, 1, 5, 1, 1);
        dueLost(none, 0, 0, 5, 0, 1);
        dueLost(none, 1, 1, 5, 1, 1);
        dueLost(none, 2, 0, 5, 1, 1);
    }

    private static void lostHasFiveRestarts() {
        CountedLists x = restarts(5);
        // All five are lost, or the last two behind one that is not: 59049 and 8100.
        dueLost(x, 4, 5, 9, 67149, 100000);
        dueLost(x, 4, 7, 1, 9, 100000);
        dueLost(x, 4, 5, 10, 1, 1);
        dueLost(x, 4, 3, 0, 1, 1);
        x.put(5, 1, 0, 0);
        dueLost(x, 5, 4, 0, 1, 1);
        x.put(6, 2, 2, 0);
        for (int one = 0; one < 7; one++) {
            C.due("more than 5", x.lost(one, 0, 0, 0), Check.FULL);
        }
        C.due("BAD paragraph is ahead of FULL", x.lost(7, 0, 0, 0), Check.BAD);
        C.due("BAD v is ahead of FULL", x.lost(0, 100, 0, 0), Check.BAD);
        C.due("BAD p is ahead of FULL", x.lost(0, 0, 11, 0), Check.BAD);
        C.due("BAD what is ahead of FULL", x.lost(0, 0, 0, 2), Check.BAD);
        x.take(6);
        dueLost(x, 5, 4, 0, 1, 1);
    }

    private static void lostOfAFullSheet() {
        CountedLists x = Check.upTo43(0);
        dueLost(x, 0, 20, 3, 7, 10);
        dueLost(x, 23, 43, 3, 7, 10);
        dueLost(x, 23, 24, 3, 3, 10);
        x.change(23, 2, 0, 9);
        dueLost(x, 23, 9, 3, 7, 10);
        dueLost(x, 23, 43, 3, 21, 100);
        dueLost(x, 22, 42, 3, 7, 10);
    }

    private static void lostLooksAtTheSheetAnew() {
        CountedLists x = Check.told("n0,0,0;i0,0;r0,3;r0,5;r0,7;");
        dueLost(x, 3, 7, 4, 3, 5);
        x.change(0, 2, 0, 9);
        x.change(1, 1, 0, 0);
        dueLost(x, 1, 10, 4, 3, 5);
        dueLost(x, 1, 2, 4, 2, 5);
        x.change(2, 1, 0, 0);
        x.change(3, 1, 0, 0);
        dueLost(x, 3, 12, 4, 3, 5);
        dueLost(x, 3, 4, 4, 2, 5);
    }

    private static void lostLosesEachApart() {
        // Paragraph 2 counts 2 if both restarts of its level are lost, else 1.
        CountedLists x = Check.told("n0,0,0;r0,0;r1,1;r0,1;i1,0;");
        dueLost(x, 2, 1, 5, 3, 4);
        dueLost(x, 2, 2, 5, 1, 4);
        dueLost(x, 1, 1, 5, 1, 1);
        dueLost(x, 3, 1, 5, 1, 1);
        // An item in place of the restart counts on from what is ahead.
        CountedLists y = Check.told("n0,0,0;i0,0;r0,2;i0,0;r0,9;");
        dueLost(y, 1, 2, 3, 1, 1);
        dueLost(y, 3, 4, 3, 3, 10);
        dueLost(y, 3, 9, 3, 7, 10);
        dueLost(y, 2, 3, 3, 1, 1);
    }

    private static void drawnHasEditsAndSeeds() {
        CountedLists x = Check.told("n0,0,0;r0,5;i0,0;t0,0;");
        for (int n : new int[] {LEAST, -1, 61, GREATEST}) {
            C.due("n " + n, x.drawn(n, 1, 0), Check.BAD);
        }
        for (int seed : new int[] {LEAST, -1, 0, 1000000, GREATEST}) {
            C.due("seed " + seed, x.drawn(1, seed, 0), Check.BAD);
            C.due("seed " + seed + " of no edits", x.drawn(0, seed, 0), Check.BAD);
        }
        for (int what : NO_ONE_OF_TWO) {
            C.due("what " + what, x.drawn(1, 1, what), Check.BAD);
        }
        C.due("no edits: how many", x.drawn(0, 1, 0), 3);
        C.due("no edits: counts", x.drawn(0, 999999, 1), 6);
        C.due("60 edits are done", x.drawn(60, 1, 0) >= 1 ? 1 : 0, 1);
        // X is 16807: odd, so that paragraph 2100 by 3 leaves 0 is taken out.
        C.due("seed 1: one goes", x.drawn(1, 1, 0), 2);
        C.due("seed 1: it is the first", x.drawn(1, 1, 1), 1);
        // X is 1774597664: even, so that a text of level 0 comes in at place 1.
        C.due("seed 999999: one comes", x.drawn(1, 999999, 0), 4);
        C.due("nothing changes", Check.shown(x), "r0,5=5 i0,0=6 t0,0=");
    }

    /** The edits one by one, by the document's own words, from how many there are at first. */
    private static int howMany(int first, int edits, int seed) {
        long x = seed;
        int many = first;
        for (int n = 0; n < edits; n++) {
            x = x * 16807 % 2147483647;
            if (x % 2 == 0 && many < 24) {
                many++;
            } else if (many > 1) {
                many--;
            }
        }
        return many;
    }

    private static void drawnStaysWithin1And24() {
        CountedLists full = Check.upTo43(0);
        CountedLists one = Check.told("n0,0,0;i0,0;");
        for (int seed = 1; seed <= 200; seed++) {
            C.due("full, one edit by " + seed, full.drawn(1, seed, 0), 23);
            C.due("one alone, one edit by " + seed, one.drawn(1, seed, 0), howMany(1, 1, seed));
        }
        for (int seed = 1; seed <= 200; seed++) {
            C.due("full, all edits by " + seed, full.drawn(60, seed, 0), howMany(24, 60, seed));
            C.due("one alone, all edits by " + seed, one.drawn(60, seed, 0), howMany(1, 60, seed));
        }
    }

    private static void drawnDoesWhatPutAndTakeDo() {
        for (int seed : new int[] {1, 2, 3, 9, 41, 65536, 999998, 999999}) {
            C.dueEdits(Check.upTo43(0), Check.upTo43(0), seed);
            C.dueEdits(Check.told("n0,0,0;h0,0;"), Check.told("n0,0,0;h0,0;"), seed);
        }
    }

    public static void main(String[] args) {
        registerHasSoMany();
        registerIsInOrder();
        bearsHas1To40Items();
        bearsHasPlaces();
        bearsTellsTheFirst();
        changedNeedsTwo();
        changedCountsLabelsAlone();
        nearestHasNumbers0To99();
        nearestTakesTheNearest();
        setsHasNumbers0To99();
        deepestTellsTheFirst();
        whoHas1To24Items();
        whoHasParagraphsAndPlaces();
        whoTellsAllThatFit();
        lostHasNumbersAndTenths();
        lostIsInLowestTerms();
        lostHasFiveRestarts();
        lostOfAFullSheet();
        lostLooksAtTheSheetAnew();
        lostLosesEachApart();
        drawnHasEditsAndSeeds();
        drawnStaysWithin1And24();
        drawnDoesWhatPutAndTakeDo();
        C.end();
    }
}
