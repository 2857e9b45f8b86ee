/** The edges of acts and images: promises 9 to 14, 28 and 29, a test for each sentence. */
public final class ActEdgesTest {
    private static final Check C = new Check();
    private static final int LEAST = Integer.MIN_VALUE, GREATEST = Integer.MAX_VALUE;
    private static final int[] NO_KINDS = {LEAST, -1, 0, 6, 7, GREATEST};
    private static final int[] NO_LEVELS = {LEAST, -1, 3, 4, GREATEST};
    private static final int[] NO_STARTS = {LEAST, -1, 21, 22, GREATEST};
    private static final String THREE = "n0,0,0;i0,1;r1,2;t2,3;";
    private static final String THREE_SHOWN = "i0,1=1 r1,2=1.2 t2,3=";

    /** A sheet of n texts, with no act to be undone but puts. */
    private static CountedLists texts(int n) {
        CountedLists x = Check.told("n0,0,0;" + "t0,0;".repeat(Math.min(n, 16)));
        for (int size = 16; size < n; size++) {
            x.put(size, 4, 0, 0);
        }
        return x;
    }

    private static void putHasPlaces0ToHowMany() {
        CountedLists x = Check.told(THREE);
        for (int place : new int[] {LEAST, -1, 4, 5, 24, GREATEST}) {
            C.due("no place " + place, x.put(place, 1, 0, 0), Check.BAD);
        }
        C.due("nothing came", Check.shown(x), THREE_SHOWN);
        C.due("no act", x.count(4), 0);
        C.due("behind the last", x.put(3, 5, 1, 4), 4);
        C.due("ahead of the first", x.put(0, 2, 0, 6), 5);
        C.due("those behind get greater numbers", Check.shown(x), "r0,6=6 i0,1=7 r1,2=7.2 t2,3= h1,4=");
        CountedLists one = texts(1);
        C.due("behind the only one", one.put(1, 1, 0, 0), 2);
        C.due("behind the only one", one.kind(1), 1);
        CountedLists other = texts(1);
        C.due("ahead of the only one", other.put(0, 1, 0, 0), 2);
        C.due("ahead of the only one", other.kind(0), 1);
    }

    private static void putHasKindsLevelsStarts() {
        CountedLists x = Check.told(THREE);
        for (int kind : NO_KINDS) {
            C.due("no kind " + kind, x.put(0, kind, 0, 0), Check.BAD);
        }
        for (int level : NO_LEVELS) {
            C.due("no level " + level, x.put(0, 1, level, 0), Check.BAD);
        }
        for (int start : NO_STARTS) {
            C.due("no start " + start, x.put(0, 1, 0, start), Check.BAD);
        }
        C.due("nothing came", Check.shown(x), THREE_SHOWN);
        C.due("no act", x.count(4), 0);
        for (int kind = 1; kind <= 5; kind++) {
            C.due("kind " + kind, x.put(0, kind, kind % 3, 0), 3 + kind);
            C.due("kind " + kind, x.kind(0), kind);
        }
        C.due("the least of all", x.put(0, 1, 0, 0), 9);
        C.due("the greatest of all", x.put(0, 5, 2, 20), 10);
        C.due("level", x.paragraph(0, 0), 2);
        C.due("start", x.paragraph(0, 1), 20);
    }

    private static void putHasRoomFor24() {
        CountedLists x = texts(23);
        C.due("the last that there is room for", x.put(23, 1, 0, 0), 24);
        for (int place : new int[] {0, 1, 23, 24}) {
            C.due("no room at " + place, x.put(place, 5, 2, 20), Check.FULL);
        }
        C.due("BAD place is ahead of FULL", x.put(25, 1, 0, 0), Check.BAD);
        C.due("BAD place is ahead of FULL", x.put(-1, 1, 0, 0), Check.BAD);
        C.due("BAD kind is ahead of FULL", x.put(0, 0, 0, 0), Check.BAD);
        C.due("BAD level is ahead of FULL", x.put(0, 1, 3, 0), Check.BAD);
        C.due("BAD start is ahead of FULL", x.put(0, 1, 0, 21), Check.BAD);
        C.due("24 are there", x.count(1), 24);
        C.due("the last is as it was", x.kind(23), 1);
        C.due("refusals are no acts", x.count(4), 8);
        C.due("one goes", x.take(0), 23);
        C.due("one comes", x.put(0, 5, 0, 0), 24);
        C.due("no room again", x.put(0, 5, 0, 0), Check.FULL);
    }

    private static void takeLeavesOne() {
        CountedLists x = Check.told(THREE);
        for (int one : new int[] {LEAST, -1, 3, 4, GREATEST}) {
            C.due("no paragraph " + one, x.take(one), Check.BAD);
        }
        C.due("nothing went", Check.shown(x), THREE_SHOWN);
        C.due("the last", x.take(2), 2);
        C.due("the first", x.take(0), 1);
        C.due("the only one", x.take(0), Check.STATE);
        C.due("BAD is ahead of STATE", x.take(1), Check.BAD);
        C.due("BAD is ahead of STATE", x.take(-1), Check.BAD);
        C.due("it is there", Check.shown(x), "r1,2=0.2");
        C.due("refusals are no acts", x.count(4), 2);
    }

    private static void moveHasPlacesOfThoseThatThereAre() {
        CountedLists x = Check.told(THREE);
        for (int wrong : new int[] {LEAST, -1, 3, 4, GREATEST}) {
            C.due("no paragraph " + wrong, x.move(wrong, 0), Check.BAD);
            C.due("no place " + wrong, x.move(0, wrong), Check.BAD);
            C.due("neither, ahead of STATE", x.move(wrong, wrong), Check.BAD);
        }
        for (int p = 0; p < 3; p++) {
            C.due("it is there", x.move(p, p), Check.STATE);
        }
        C.due("nothing is moved", Check.shown(x), THREE_SHOWN);
        C.due("refusals are no acts", x.count(4), 0);
        C.due("from the first to the last", x.move(0, 2), 0);
        C.due("shown", Check.shown(x), "r1,2=0.2 t2,3= i0,1=1");
        C.due("from the last to the first", x.move(2, 0), 0);
        C.due("shown", Check.shown(x), THREE_SHOWN);
        C.due("its level, not that of the one that was there", x.move(2, 1), 2);
        C.due("by one place, onwards", x.move(0, 1), 0);
        C.due("shown", Check.shown(x), "t2,3= i0,1=1 r1,2=1.2");
        CountedLists one = texts(1);
        C.due("the only one is there", one.move(0, 0), Check.STATE);
        C.due("no place behind it", one.move(0, 1), Check.BAD);
        CountedLists full = texts(24);
        full.change(0, 1, 1, 0);
        C.due("a full sheet, too", full.move(0, 23), 1);
        C.due("at the last place", full.kind(23), 1);
        C.due("as many as ahead", full.count(1), 24);
    }

    private static void changeHasKindsLevelsStarts() {
        CountedLists x = Check.told(THREE);
        for (int one : new int[] {LEAST, -1, 3, GREATEST}) {
            C.due("no paragraph " + one, x.change(one, 1, 0, 0), Check.BAD);
        }
        for (int kind : NO_KINDS) {
            C.due("no kind " + kind, x.change(0, kind, 0, 0), Check.BAD);
        }
        for (int level : NO_LEVELS) {
            C.due("no level " + level, x.change(0, 1, level, 0), Check.BAD);
        }
        for (int start : NO_STARTS) {
            C.due("no start " + start, x.change(0, 1, 0, start), Check.BAD);
        }
        C.due("nothing is another", Check.shown(x), THREE_SHOWN);
        C.due("refusals are no acts", x.count(4), 0);
        int was = 1;
        for (int kind = 5; kind >= 1; kind--) {
            C.due("kind " + kind, x.change(0, kind, 0, 20), was);
            was = kind;
        }
        C.due("the least of all", x.change(2, 1, 0, 0), 4);
        C.due("the greatest of all", x.change(2, 5, 2, 20), 1);
        C.due("level", x.paragraph(2, 0), 2);
        C.due("start", x.paragraph(2, 1), 20);
        C.due("the only one", texts(1).change(0, 2, 2, 20), 4);
    }

    private static void styleHasLevelsStyles() {
        CountedLists x = Check.told("n3,2,1;i0,0;");
        for (int level : NO_LEVELS) {
            C.due("no level " + level, x.style(level, 0), Check.BAD);
        }
        for (int style : new int[] {LEAST, -1, 4, 5, GREATEST}) {
            C.due("no style " + style, x.style(0, style), Check.BAD);
        }
        C.due("refusals are no acts", x.count(4), 0);
        int[] was = {3, 2, 1};
        for (int style = 3; style >= 0; style--) {
            for (int level = 0; level < 3; level++) {
                C.due("style " + style + " of level " + level, x.style(level, style), was[level]);
                was[level] = style;
            }
        }
    }

    private static void undoOfNone() {
        CountedLists x = new CountedLists();
        C.due("no sheet", x.undo(), Check.STATE);
        Check.tell(x, THREE);
        C.due("no act yet", x.undo(), Check.STATE);
        x.take(5);
        x.move(0, 0);
        x.put(9, 1, 0, 0);
        x.change(0, 0, 0, 0);
        x.style(3, 0);
        C.due("refusals are no acts", x.undo(), Check.STATE);
        x.take(0);
        C.due("the only act", x.undo(), 0);
        C.due("none is left", x.undo(), Check.STATE);
        C.due("all is as it was", Check.shown(x), THREE_SHOWN);
    }

    private static void actsKept(int acts, int kept) {
        CountedLists x = Check.told("n0,0,0;r0,0;t0,0;");
        for (int n = 1; n <= acts; n++) {
            x.change(0, 2, 0, n % 21);
        }
        C.due("kept of " + acts, x.count(4), kept);
        for (int left = kept - 1; left >= 0; left--) {
            C.due("undo of " + acts + ", left " + left, x.undo(), left);
            C.due("start, left " + left, x.paragraph(0, 1), (acts - kept + left) % 21);
        }
        C.due("no more of " + acts, x.undo(), Check.STATE);
        C.due("the oldest stands", x.paragraph(0, 1), (acts - kept) % 21);
    }

    private static void actsAre24AtMost() {
        actsKept(1, 1);
        actsKept(23, 23);
        actsKept(24, 24);
        actsKept(25, 24);
        actsKept(26, 24);
        actsKept(49, 24);
        CountedLists x = Check.told("n0,0,0;r0,0;");
        for (int n = 1; n <= 30; n++) {
            x.change(0, 2, 0, n % 21);
        }
        for (int n = 0; n < 10; n++) {
            x.undo();
        }
        for (int n = 1; n <= 10; n++) {
            C.due("an act in place of one undone", x.change(0, 5, 1, n), n == 1 ? 2 : 5);
        }
        C.due("24 again", x.count(4), 24);
        C.due("one more", x.style(0, 1), 0);
        C.due("24 still", x.count(4), 24);
        for (int left = 23; left >= 0; left--) {
            x.undo();
        }
        C.due("the oldest stands", x.paragraph(0, 1), 7);
        C.due("no more", x.undo(), Check.STATE);
    }

    private static void dueUndone(String sentence, CountedLists x, String before) {
        C.due(sentence + ": undo", x.undo(), 0);
        C.due(sentence + ": all is as it was", Check.shown(x), before);
    }

    private static void eachActIsUndone() {
        String text = "n0,1,2;r0,4;i1,5;i2,6;h2,7;c1,8;";
        CountedLists x = Check.told(text);
        String before = Check.shown(x);
        for (int place : new int[] {0, 2, 5}) {
            x.put(place, 2, 0, 9);
            dueUndone("put at " + place, x, before);
        }
        for (int one : new int[] {0, 3, 4}) {
            x.take(one);
            dueUndone("take of " + one, x, before);
        }
        int[][] moves = {{0, 4}, {4, 0}, {1, 2}, {2, 1}, {3, 0}};
        for (int[] move : moves) {
            x.move(move[0], move[1]);
            dueUndone("move of " + move[0] + " to " + move[1], x, before);
        }
        CountedLists y = Check.told(text);
        for (int one : new int[] {0, 2, 4}) {
            y.change(one, 5, 2, 20);
            dueUndone("change of " + one, y, before);
        }
        for (int level = 0; level < 3; level++) {
            y.style(level, 3);
            dueUndone("style of " + level, y, before);
        }
    }

    private static void undoAtTheLimits() {
        CountedLists x = texts(24);
        x.take(23);
        x.put(0, 1, 0, 0);
        C.due("a put into the last room, undone", x.undo() >= 0 ? x.count(1) : -1, 23);
        C.due("a take from a full sheet, undone", x.undo() >= 0 ? x.count(1) : -1, 24);
        C.due("no room", x.put(0, 1, 0, 0), Check.FULL);
        CountedLists y = Check.told("n0,0,0;i0,0;h1,5;");
        y.take(0);
        C.due("the only one", y.take(0), Check.STATE);
        C.due("undone", y.undo(), 0);
        C.due("both are there", Check.shown(y), "i0,0=1 h1,5=");
    }

    private static void foretoldIsNoAct() {
        CountedLists x = Check.told(THREE);
        x.take(0);
        x.changed(0);
        x.nearest(0, 1);
        x.lost(0, 0, 5, 0);
        x.drawn(60, 7, 0);
        x.row(0, 0, 1);
        x.who(0, 0, 0, 0, 1);
        x.image(0);
        C.due("one act", x.count(4), 1);
        C.due("undone", x.undo(), 0);
        C.due("all is as it was", Check.shown(x), THREE_SHOWN);
    }

    private static void imagesAre0And1() {
        CountedLists x = Check.told(THREE);
        for (int k : new int[] {LEAST, -1, 2, 3, GREATEST}) {
            C.due("no image " + k, x.image(k), Check.BAD);
            C.due("no image " + k + ", ahead of STATE", x.restore(k), Check.BAD);
        }
        C.due("none was kept", x.restore(0), Check.STATE);
        C.due("none was kept", x.restore(1), Check.STATE);
        C.due("image 1", x.image(1), 1);
        C.due("image 0 was not kept", x.restore(0), Check.STATE);
        C.due("image 1 was", x.restore(1), 1);
        C.due("image 0", x.image(0), 1);
        C.due("image 0 was kept", x.restore(0), 1);
    }

    private static void restoreForgetsActs() {
        CountedLists x = Check.told(THREE);
        x.image(0);
        x.take(0);
        x.style(1, 3);
        C.due("one that was not kept leaves the acts", x.restore(1), Check.STATE);
        C.due("one that there cannot be, too", x.restore(2), Check.BAD);
        C.due("two acts", x.count(4), 2);
        C.due("an image leaves the acts", x.image(1), 1);
        C.due("two acts", x.count(4), 2);
        C.due("restored", x.restore(0), 1);
        C.due("no act", x.count(4), 0);
        C.due("no act can be undone", x.undo(), Check.STATE);
        C.due("as it was kept", Check.shown(x), THREE_SHOWN);
        C.due("styles, too", x.style(1, 0), 0);
    }

    private static void imagesDoNotChange() {
        CountedLists x = texts(24);
        x.image(0);
        x.change(23, 1, 2, 20);
        x.image(1);
        x.take(0);
        x.change(0, 5, 1, 1);
        x.style(2, 3);
        C.due("a full sheet", x.restore(1), 1);
        C.due("of 24", x.count(1), 24);
        C.due("the last of 24", x.kind(23), 1);
        C.due("the first of 24", x.kind(0), 4);
        x.change(23, 2, 0, 0);
        C.due("again", x.restore(1), 1);
        C.due("the image is as it was", x.kind(23), 1);
        C.due("the other one", x.restore(0), 1);
        C.due("is as it was", x.kind(23), 4);
        C.due("no room", x.put(0, 1, 0, 0), Check.FULL);
        CountedLists y = Check.told("n0,0,0;t0,0;");
        y.image(0);
        y.put(0, 1, 0, 0);
        y.image(0);
        y.take(0);
        C.due("the latest of an image", y.restore(0), 1);
        C.due("is what stands", Check.shown(y), "i0,0=1 t0,0=");
    }

    public static void main(String[] args) {
        putHasPlaces0ToHowMany();
        putHasKindsLevelsStarts();
        putHasRoomFor24();
        takeLeavesOne();
        moveHasPlacesOfThoseThatThereAre();
        changeHasKindsLevelsStarts();
        styleHasLevelsStyles();
        undoOfNone();
        actsAre24AtMost();
        eachActIsUndone();
        undoAtTheLimits();
        foretoldIsNoAct();
        imagesAre0And1();
        restoreForgetsActs();
        imagesDoNotChange();
        C.end();
    }
}
