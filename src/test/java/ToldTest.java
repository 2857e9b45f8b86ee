/** Promises 1 and 6 to 9: a new object, the tape, sheets, faults, undoing. */
public final class ToldTest {
    private static final Check C = new Check();
    private static final String LAW = "n0,1,2;";

    private static void newObjectPromise1() {
        CountedLists x = new CountedLists();
        for (int what = 0; what < 6; what++) {
            C.due("count(" + what + ")", x.count(what), 0);
        }
        C.due("fault()", x.fault(), 0);
        C.due("status()", x.status(), 0);
        C.due("trace(0)", x.trace(0), Check.NONE);
        C.due("undo()", x.undo(), Check.STATE);
        C.due("no SHEET: put", x.put(-1, 0, 3, 21), Check.STATE);
        C.due("no SHEET: style", x.style(3, 4), Check.STATE);
        C.due("no SHEET: register", x.register(-1), Check.STATE);
        C.due("no SHEET: bears", x.bears(-1, 0, 0), Check.STATE);
        C.due("no SHEET: sets", x.sets(-1), Check.STATE);
        C.due("no SHEET: deepest", x.deepest(2), Check.STATE);
        C.due("no SHEET: drawn", x.drawn(61, 0, 2), Check.STATE);
        C.due("no SHEET: image", x.image(1), Check.STATE);
        C.due("no SHEET: BAD is ahead in image", x.image(-1), Check.BAD);
        C.due("no SHEET: restore", x.restore(1), Check.STATE);
        C.due("no SHEET: restore", x.restore(-1), Check.BAD);
        C.due("no SHEET: take", x.take(0), Check.BAD);
        C.due("no SHEET: lost", x.lost(0, 0, 0, 0), Check.BAD);
        C.due("no SHEET: who", x.who(0, 0, 0, 0, 1), Check.BAD);
    }

    private static void feedPromise6() {
        CountedLists x = new CountedLists();
        C.due("feed(-1)", x.feed(-1), Check.BAD);
        C.due("feed(256)", x.feed(256), Check.BAD);
        C.due("feed(0)", x.feed(0), 1);
        C.due("feed(255)", x.feed(255), 2);
        for (int i = 3; i <= 130; i++) {
            C.due("feed " + i, x.feed('i'), i);
        }
        C.due("feed beyond 130", x.feed('i'), Check.FULL);
        C.due("BAD is ahead of FULL", x.feed(256), Check.BAD);
        C.due("count(5)", x.count(5), 130);
        C.due("sheet() of byte 0", x.sheet(), -1000100);
        C.due("the tape is empty then", x.count(5), 0);
        C.due("feed anew", x.feed('n'), 1);
    }

    private static void fault(String text, int place, int number) {
        CountedLists x = new CountedLists();
        Check.tell(x, "n3,3,3;c2,9;i0,0;");
        x.put(2, 4, 1, 5);
        String before = Check.shown(x);
        C.due("sheet " + text, Check.tell(x, text), -1000100 - place);
        C.due("fault of " + text, x.fault(), number);
        C.due("all stays at " + text, Check.shown(x), before);
        C.due("acts stay at " + text, x.count(4), 1);
        C.due("the tape is empty after " + text, x.count(5), 0);
    }

    private static void sheetPromise7() {
        CountedLists x = new CountedLists();
        C.due("sheet", Check.tell(x, "n03,2,01;i0,00;r1,20;c2,7;t0,05;h2,19;"), 5);
        C.due("shown", Check.shown(x), "i0,0=A r1,20=A.xx c2,7=0.0.a t0,5= h2,19=");
        C.due("put", x.put(0, 1, 0, 0), 6);
        C.due("another sheet in its place", Check.tell(x, "n0,0,0;t2,1;"), 1);
        C.due("shown", Check.shown(x), "t2,1=");
        C.due("no act can be undone", x.undo(), Check.STATE);
        C.due("a good sheet is no fault", x.fault(), 0);
        StringBuilder most = new StringBuilder("n0,0,0;");
        for (int i = 0; i < 16; i++) {
            most.append("h0,20;");
        }
        C.due("sixteen", Check.tell(x, most.toString()), 16);
        fault(most + "i", 103, 3);
        fault(most + "h9,999", 103, 3);
        fault(most + "x", 103, 1);
        fault(most + "12", 103, 1);
    }

    private static void faultPromise8() {
        fault("", 0, 1);
        fault("i0,0;", 0, 1);
        fault("n", 1, 1);
        fault("n,0,0;", 1, 1);
        fault("n4,0,0;i0,0;", 1, 2);
        fault("n99,0,0;i0,0;", 1, 2);
        fault("n0,4,0;", 3, 2);
        fault("n0,0,4", 5, 2);
        fault("n000,0,0;", 1, 1);
        fault("n0000000000000000000,0,0;", 1, 1);
        fault("n0;0,0;", 2, 1);
        fault("n0,0,0,i0,0;", 6, 1);
        fault(LAW, 7, 1);
        fault(LAW + "n", 7, 1);
        fault(LAW + "I0,0;", 7, 1);
        fault(LAW + " i0,0;", 7, 1);
        fault(LAW + (char) 255, 7, 1);
        fault(LAW + (char) 0, 7, 1);
        fault(LAW + "i3,0;", 8, 2);
        fault(LAW + "i100,0;", 8, 1);
        fault(LAW + "ii", 8, 1);
        fault(LAW + "i0;0;", 9, 1);
        fault(LAW + "i0,21;", 10, 2);
        fault(LAW + "i0,20,", 12, 1);
        fault(LAW + "i0,200;", 10, 1);
        fault(LAW + "i0,2", 11, 1);
        fault(LAW + "i0,", 10, 1);
        fault(LAW + "i0,0;;", 12, 1);
        fault(LAW + "i0,0;7", 12, 1);
        fault(LAW + "i0,0;" + (char) 0, 12, 1);
        fault(LAW + "i" + (char) 1 + ",0;", 8, 1);
        fault(LAW + "i0" + (char) 2 + "0;", 9, 1);
        fault(LAW + "i3,21;x", 8, 2);
        CountedLists x = new CountedLists();
        Check.tell(x, "n4");
        C.due("fault is 2", x.fault(), 2);
        Check.tell(x, "n0,0,0;i0,0;");
        C.due("the latest fault stays", x.fault(), 2);
        Check.tell(x, "m");
        C.due("fault is 1", x.fault(), 1);
    }

    private static void undoPromise9() {
        CountedLists x = Check.told("n0,0,0;r0,4;i1,0;h0,0;c1,0;");
        String[] shown = new String[7];
        shown[0] = Check.shown(x);
        x.put(1, 3, 2, 9);
        shown[1] = Check.shown(x);
        x.take(4);
        shown[2] = Check.shown(x);
        x.move(0, 3);
        shown[3] = Check.shown(x);
        x.move(3, 1);
        shown[4] = Check.shown(x);
        x.change(2, 2, 0, 17);
        shown[5] = Check.shown(x);
        x.style(1, 2);
        shown[6] = Check.shown(x);
        C.due("an act that is refused is none", x.move(1, 1), Check.STATE);
        C.due("six acts", x.count(4), 6);
        for (int left = 5; left >= 0; left--) {
            C.due("undo, left " + left, x.undo(), left);
            C.due("shown, left " + left, Check.shown(x), shown[left]);
        }
        C.due("none is left", x.undo(), Check.STATE);
    }

    private static void undoOf24() {
        CountedLists x = Check.told("n0,0,0;r0,4;i1,0;i1,0;h0,0;c1,0;");
        for (int i = 0; i < 30; i++) {
            x.change(0, 2, 0, i % 21);
        }
        C.due("24 are kept", x.count(4), 24);
        for (int left = 23; left >= 0; left--) {
            C.due("undo of 24, left " + left, x.undo(), left);
        }
        C.due("the six oldest are forgotten", x.paragraph(0, 1), 5);
        C.due("none is left", x.undo(), Check.STATE);
        C.due("one more act", x.style(0, 0), 0);
        C.due("a style that is the same is an act", x.count(4), 1);
        C.due("a change that is none is an act", x.change(0, 2, 0, 5), 2);
        C.due("two acts", x.count(4), 2);
    }

    public static void main(String[] args) {
        newObjectPromise1();
        feedPromise6();
        sheetPromise7();
        faultPromise8();
        undoPromise9();
        undoOf24();
        C.end();
    }
}
