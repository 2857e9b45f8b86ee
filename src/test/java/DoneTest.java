/** Promises 10 to 17: acts, paragraphs, labels. */
public final class DoneTest {
    private static final Check C = new Check();

    private static void putPromise10() {
        CountedLists x = Check.told("n0,0,0;i0,0;");
        C.due("put behind", x.put(1, 1, 1, 0), 2);
        C.due("put ahead", x.put(0, 2, 0, 6), 3);
        C.due("put between", x.put(1, 5, 2, 20), 4);
        C.due("shown", Check.shown(x), "r0,6=6 h2,20= i0,0=1 i1,0=1.1");
        C.due("place below 0", x.put(-1, 1, 0, 0), Check.BAD);
        C.due("place above", x.put(5, 1, 0, 0), Check.BAD);
        C.due("kind 0", x.put(0, 0, 0, 0), Check.BAD);
        C.due("kind 6", x.put(0, 6, 0, 0), Check.BAD);
        C.due("level -1", x.put(0, 1, -1, 0), Check.BAD);
        C.due("level 3", x.put(0, 1, 3, 0), Check.BAD);
        C.due("start -1", x.put(0, 1, 0, -1), Check.BAD);
        C.due("start 21", x.put(0, 1, 0, 21), Check.BAD);
        for (int n = 5; n <= 24; n++) {
            C.due("put " + n, x.put(n - 1, 1, 2, 0), n);
        }
        C.due("put beyond 24", x.put(0, 1, 0, 0), Check.FULL);
        C.due("BAD is ahead of FULL", x.put(25, 1, 0, 0), Check.BAD);
        C.due("acts", x.count(4), 23);
        C.due("undone", x.undo(), 22);
        C.due("there is room again", x.put(24, 1, 0, 0), Check.BAD);
        C.due("there is room again", x.put(23, 1, 0, 0), 24);
    }

    private static void takePromise11() {
        CountedLists x = Check.told("n0,0,0;i0,0;i0,0;i0,0;");
        C.due("take(3)", x.take(3), Check.BAD);
        C.due("take(-1)", x.take(-1), Check.BAD);
        C.due("take(0)", x.take(0), 2);
        C.due("take(1)", x.take(1), 1);
        C.due("shown", Check.shown(x), "i0,0=1");
        C.due("the only one", x.take(0), Check.STATE);
        C.due("BAD is ahead of STATE", x.take(1), Check.BAD);
        C.due("acts", x.count(4), 2);
    }

    private static void movePromise12() {
        CountedLists x = Check.told("n0,0,0;r2,5;i1,0;i2,0;t0,0;");
        C.due("move(0, 3)", x.move(0, 3), 2);
        C.due("shown", Check.shown(x), "i1,0=0.1 i2,0=0.1.1 t0,0= r2,5=0.1.5");
        C.due("move(2, 0)", x.move(2, 0), 0);
        C.due("move(1, 2)", x.move(1, 2), 1);
        C.due("shown", Check.shown(x), "t0,0= i2,0=0.0.1 i1,0=0.1 r2,5=0.1.5");
        C.due("it is there", x.move(2, 2), Check.STATE);
        C.due("no such place", x.move(2, 4), Check.BAD);
        C.due("no such place", x.move(2, -1), Check.BAD);
        C.due("no such paragraph", x.move(4, 0), Check.BAD);
        C.due("BAD is ahead of STATE", x.move(4, 4), Check.BAD);
        C.due("acts", x.count(4), 3);
    }

    private static void changePromise13() {
        CountedLists x = Check.told("n0,0,0;i0,0;i0,0;");
        C.due("change", x.change(0, 5, 1, 2), 1);
        C.due("shown", Check.shown(x), "h1,2= i0,0=1");
        C.due("change", x.change(0, 2, 2, 20), 5);
        C.due("shown", Check.shown(x), "r2,20=0.0.20 i0,0=1");
        C.due("no such one", x.change(2, 1, 0, 0), Check.BAD);
        C.due("no such one", x.change(-1, 1, 0, 0), Check.BAD);
        C.due("kind 0", x.change(0, 0, 0, 0), Check.BAD);
        C.due("kind 6", x.change(0, 6, 0, 0), Check.BAD);
        C.due("level 3", x.change(0, 1, 3, 0), Check.BAD);
        C.due("level -1", x.change(0, 1, -1, 0), Check.BAD);
        C.due("start 21", x.change(0, 1, 0, 21), Check.BAD);
        C.due("start -1", x.change(0, 1, 0, -1), Check.BAD);
        C.due("acts", x.count(4), 2);
    }

    private static void stylePromise14() {
        CountedLists x = Check.told("n0,1,2;r0,3;r1,4;r2,9;");
        C.due("label", Check.label(x, 2, 0), "3.d.ix");
        C.due("style(0, 3)", x.style(0, 3), 0);
        C.due("style(2, 1)", x.style(2, 1), 2);
        C.due("style(1, 2)", x.style(1, 2), 1);
        C.due("label", Check.label(x, 2, 0), "C.iv.i");
        C.due("level 3", x.style(3, 0), Check.BAD);
        C.due("level -1", x.style(-1, 0), Check.BAD);
        C.due("style 4", x.style(0, 4), Check.BAD);
        C.due("style -1", x.style(0, -1), Check.BAD);
        C.due("acts", x.count(4), 3);
    }

    private static void paragraphPromise15() {
        CountedLists x = Check.told("n0,0,0;r0,4;i1,0;i2,7;h1,3;i2,0;c1,0;c0,0;h0,0;t2,0;c2,0;");
        int[][] counts = {{4, 0, 0}, {4, 1, 0}, {4, 1, 1}, {0, 0, 0}, {0, 0, 1}, {4, 2, 0}, {5, 0, 0}, {0, 0, 0},
            {0, 0, 0}, {5, 0, 1}};
        int[] signs = {1, 3, 5, 0, 5, 3, 1, 0, 0, 5};
        for (int p = 0; p < counts.length; p++) {
            for (int level = 0; level < 3; level++) {
                C.due("counts of " + p, x.paragraph(p, 2 + level), counts[p][level]);
            }
            C.due("signs of " + p, x.paragraph(p, 5), signs[p]);
        }
        C.due("level", x.paragraph(3, 0), 1);
        C.due("start", x.paragraph(2, 1), 7);
        C.due("what -1", x.paragraph(0, -1), Check.BAD);
        C.due("what 6", x.paragraph(0, 6), Check.BAD);
        C.due("no such one", x.paragraph(10, 0), Check.BAD);
        C.due("no such one", x.paragraph(-1, 0), Check.BAD);
    }

    private static void numerals() {
        String[] roman = {"0", "i", "ii", "iii", "iv", "v", "vi", "vii", "viii", "ix", "x"};
        CountedLists x = Check.told("n2,0,0;r0,0;");
        for (int v = 0; v <= 10; v++) {
            x.change(0, 2, 0, v);
            C.due("Roman " + v, Check.label(x, 0, 0), roman[v]);
        }
        x.change(0, 2, 0, 20);
        for (int n = 1; n < 24; n++) {
            x.put(n, 1, 0, 0);
        }
        C.due("Roman 29", Check.label(x, 9, 0), "xxix");
        C.due("Roman 38", Check.label(x, 18, 0), "xxxviii");
        C.due("Roman 39", Check.label(x, 19, 0), "xxxix");
        C.due("Roman 40", Check.label(x, 20, 0), "xl");
        C.due("Roman 43", Check.label(x, 23, 0), "xliii");
        x.style(0, 0);
        C.due("figures 20", Check.label(x, 0, 0), "20");
        C.due("figures 43", Check.label(x, 23, 0), "43");
        x.style(0, 1);
        C.due("letters 20", Check.label(x, 0, 0), "t");
        C.due("letters 26", Check.label(x, 6, 0), "z");
        C.due("letters 27", Check.label(x, 7, 0), "aa");
        C.due("letters 28", Check.label(x, 8, 0), "ab");
        C.due("letters 43", Check.label(x, 23, 0), "aq");
        x.style(0, 3);
        C.due("great letters 26", Check.label(x, 6, 0), "Z");
        C.due("great letters 27", Check.label(x, 7, 0), "AA");
        C.due("great letters 43", Check.label(x, 23, 0), "AQ");
    }

    private static void labelPromise16() {
        CountedLists x = Check.told("n1,3,2;i2,0;r0,2;r1,3;r2,4;t2,0;h0,0;i1,0;");
        C.due("from 0", Check.label(x, 3, 0), "b.C.iv");
        C.due("from 1", Check.label(x, 3, 1), "C.iv");
        C.due("from 2", Check.label(x, 3, 2), "iv");
        C.due("its own alone", Check.label(x, 2, 2), "C");
        C.due("its own alone", Check.label(x, 1, 1), "b");
        C.due("noughts", Check.label(x, 0, 0), "0.0.i");
        C.due("noughts", Check.label(x, 6, 0), "0.A");
        C.due("of a text", x.label(4, 0, 0), Check.NONE);
        C.due("of a head", x.label(5, 2, 0), Check.NONE);
        C.due("the last sign", x.label(3, 0, 5), 'v');
        C.due("beyond", x.label(3, 0, 6), Check.NONE);
        C.due("far beyond", x.label(3, 0, Integer.MAX_VALUE), Check.NONE);
        C.due("j below 0", x.label(3, 0, -1), Check.BAD);
        C.due("j below 0 of a text", x.label(4, 0, -1), Check.BAD);
        C.due("level 3", x.label(3, 3, 0), Check.BAD);
        C.due("level -1", x.label(3, -1, 0), Check.BAD);
        C.due("no such one", x.label(7, 0, 0), Check.BAD);
        C.due("no such one", x.label(-1, 0, 0), Check.BAD);
    }

    private static void calledPromise17() {
        CountedLists x = Check.told("n0,0,0;i0,0;i1,0;i2,0;i2,0;i1,0;i2,0;i0,0;t1,0;h0,0;");
        C.due("2 from 3", Check.called(x, 2, 3), "1");
        C.due("2 from 5", Check.called(x, 2, 5), "1.1");
        C.due("2 from 6", Check.called(x, 2, 6), "1.1.1");
        C.due("2 from itself", Check.called(x, 2, 2), "1");
        C.due("3 from itself", Check.called(x, 3, 3), "2");
        C.due("5 from 4", Check.called(x, 5, 4), "1");
        C.due("4 from 5: its own level", Check.called(x, 4, 5), "2");
        C.due("0 from 2: its own level", Check.called(x, 0, 2), "1");
        C.due("6 from a text: its own level", Check.called(x, 6, 7), "2");
        C.due("1 from a head", Check.called(x, 1, 8), "1.1");
        C.due("a text has none", x.called(7, 0, 0), Check.NONE);
        C.due("a head has none", x.called(8, 0, 0), Check.NONE);
        C.due("j below 0", x.called(0, 0, -1), Check.BAD);
        C.due("no such one", x.called(9, 0, 0), Check.BAD);
        C.due("no such other", x.called(0, 9, 0), Check.BAD);
        C.due("no such other", x.called(0, -1, 0), Check.BAD);
    }

    public static void main(String[] args) {
        putPromise10();
        takePromise11();
        movePromise12();
        changePromise13();
        stylePromise14();
        paragraphPromise15();
        numerals();
        labelPromise16();
        calledPromise17();
        C.end();
    }
}
