/** The edges of counters, numerals and labels: the second part of the Terms, promises 15 to 18. */
public final class LabelEdgesTest {
    private static final Check C = new Check();
    private static final int LEAST = Integer.MIN_VALUE, GREATEST = Integer.MAX_VALUE;
    private static final String ALL = "n0,1,2;i0,3;r1,4;c2,5;t2,6;h1,7;";

    private static void dueCounts(String sentence, CountedLists x, int p, int zero, int one, int two) {
        C.due(sentence + ": level 0", x.paragraph(p, 2), zero);
        C.due(sentence + ": level 1", x.paragraph(p, 3), one);
        C.due(sentence + ": level 2", x.paragraph(p, 4), two);
    }

    private static void dueLabels(String text, String... labels) {
        CountedLists x = Check.told(text);
        for (int p = 0; p < labels.length; p++) {
            C.due("label " + p + " of " + text, Check.label(x, p, 0), labels[p]);
        }
    }

    private static void countersAre0AheadOfAll() {
        for (int level = 0; level < 3; level++) {
            int[] due = new int[3];
            due[level] = 1;
            for (char sort : "ic".toCharArray()) {
                CountedLists x = Check.told("n0,0,0;" + sort + level + ",9;");
                dueCounts("the first, a " + sort, x, 0, due[0], due[1], due[2]);
            }
            for (char sort : "th".toCharArray()) {
                CountedLists x = Check.told("n0,0,0;" + sort + level + ",9;");
                dueCounts("the first, a " + sort, x, 0, 0, 0, 0);
            }
        }
    }

    private static void deeperLevelsBecome0() {
        String[] sorts = {"i", "r"};
        int[] own = {6, 4};
        for (int k = 0; k < 2; k++) {
            String text = "n0,0,0;r0,5;r1,5;r2,5;?2,4;?1,4;?0,4;";
            CountedLists x = Check.told(text.replace("?", sorts[k]));
            dueCounts("of level 2 none is deeper", x, 3, 5, 5, own[k]);
            dueCounts("of level 1 level 2 is", x, 4, 5, own[k], 0);
            dueCounts("of level 0 both are", x, 5, own[k], 0, 0);
        }
        CountedLists y = Check.told("n0,0,0;r0,5;r1,5;r2,5;h0,0;c2,4;c1,4;c0,4;");
        dueCounts("resumed: of level 2 none is deeper", y, 4, 5, 5, 6);
        dueCounts("resumed: of level 1 level 2 is", y, 5, 5, 6, 0);
        dueCounts("resumed: of level 0 both are", y, 6, 6, 0, 0);
    }

    private static void startsAre0To20() {
        CountedLists x = Check.told("n0,0,0;r0,0;i0,20;r1,20;i1,0;");
        dueCounts("a start of 0", x, 0, 0, 0, 0);
        dueCounts("an item has no use for its start", x, 1, 1, 0, 0);
        dueCounts("a start of 20", x, 2, 1, 20, 0);
        dueCounts("on from 20", x, 3, 1, 21, 0);
    }

    private static void resumedTakesWhatIsKept() {
        CountedLists x = Check.told("n0,0,0;r0,7;c0,0;h0,0;c0,0;h0,0;h0,0;c0,0;r1,9;c1,0;");
        dueCounts("nothing is kept yet", x, 1, 1, 0, 0);
        dueCounts("behind a head", x, 3, 2, 0, 0);
        dueCounts("behind two heads 0 is kept", x, 6, 1, 0, 0);
        dueCounts("what is now is lost", x, 8, 0, 1, 0);
        CountedLists y = Check.told("n0,0,0;r0,7;h0,0;c0,0;c0,0;i0,0;");
        dueCounts("it stays kept", y, 3, 8, 0, 0);
        dueCounts("an item counts on behind it", y, 4, 9, 0, 0);
    }

    private static void textsAndHeads() {
        CountedLists x = Check.told("n0,0,0;r0,7;r1,8;t0,0;i1,0;h2,0;t1,20;i2,0;");
        dueCounts("a text does nothing", x, 2, 7, 8, 0);
        dueCounts("on behind a text", x, 3, 7, 9, 0);
        dueCounts("a head of level 2 ends all levels", x, 4, 0, 0, 0);
        dueCounts("a text of a start does nothing", x, 5, 0, 0, 0);
        dueCounts("on from 0", x, 6, 0, 0, 1);
    }

    private static void numeralsOfEachStyle() {
        String[] roman = {"0", "i", "ii", "iii", "iv", "v", "vi", "vii", "viii", "ix", "x", "xi", "xii", "xiii", "xiv",
            "xv", "xvi", "xvii", "xviii", "xix", "xx"};
        for (int v = 0; v <= 20; v++) {
            String small = v == 0 ? "0" : String.valueOf((char) ('a' + v - 1));
            String[] due = {String.valueOf(v), small, roman[v], small.toUpperCase()};
            for (int style = 0; style <= 3; style++) {
                dueLabels("n" + style + ",0,0;r0," + v + ";", due[style]);
                dueLabels("n0," + style + ",0;r1," + v + ";", "0." + due[style]);
                dueLabels("n0,0," + style + ";r2," + v + ";", "0.0." + due[style]);
            }
        }
    }

    private static void numeralsUpTo43() {
        String[] roman = {"xx", "xxi", "xxii", "xxiii", "xxiv", "xxv", "xxvi", "xxvii", "xxviii", "xxix", "xxx", "xxxi",
            "xxxii", "xxxiii", "xxxiv", "xxxv", "xxxvi", "xxxvii", "xxxviii", "xxxix", "xl", "xli", "xlii", "xliii"};
        String letters = "t u v w x y z aa ab ac ad ae af ag ah ai aj ak al am an ao ap aq";
        CountedLists[] x = {Check.upTo43(0), Check.upTo43(1), Check.upTo43(2), Check.upTo43(3)};
        for (int p = 0; p < 24; p++) {
            String small = letters.split(" ")[p];
            String[] due = {String.valueOf(20 + p), small, roman[p], small.toUpperCase()};
            for (int style = 0; style <= 3; style++) {
                C.due("style " + style + " of " + (20 + p), Check.label(x[style], p, 0), due[style]);
                C.due("how many signs", x[style].paragraph(p, 5), due[style].length());
            }
        }
    }

    private static void theNumber0IsTheSign0() {
        for (int style = 0; style <= 3; style++) {
            String law = "n" + style + "," + style + "," + style + ";";
            String one = "1aiA".substring(style, style + 1);
            dueLabels(law + "i2,0;r1,0;r0,0;", "0.0." + one, "0.0", "0");
        }
    }

    private static void textsAndHeadsHaveNoSigns() {
        CountedLists x = Check.told("n0,0,0;r0,5;t0,0;t2,0;h0,0;h2,0;");
        for (int p = 1; p < 5; p++) {
            C.due("no signs", x.paragraph(p, 5), 0);
            for (int level = 0; level < 3; level++) {
                C.due("no first sign", x.label(p, level, 0), Check.NONE);
            }
            C.due("no first sign, called", x.called(p, 0, 0), Check.NONE);
            C.due("no first sign, called from itself", x.called(p, p, 0), Check.NONE);
        }
    }

    private static void paragraphAsksWhat0To5() {
        CountedLists x = Check.told(ALL);
        for (int wrong : new int[] {LEAST, -1, 6, GREATEST}) {
            C.due("what " + wrong, x.paragraph(0, wrong), Check.BAD);
        }
        for (int wrong : new int[] {LEAST, -1, 5, GREATEST}) {
            C.due("no paragraph " + wrong, x.paragraph(wrong, 0), Check.BAD);
            C.due("no paragraph " + wrong, x.paragraph(wrong, 5), Check.BAD);
        }
        int[] due = {2, 5, 0, 0, 1, 5};
        for (int what = 0; what <= 5; what++) {
            C.due("what " + what, x.paragraph(2, what), due[what]);
        }
        C.due("level of a text", x.paragraph(3, 0), 2);
        C.due("start of the last one, a head", x.paragraph(4, 1), 7);
    }

    private static void labelIsClipped() {
        CountedLists x = Check.told("n0,1,2;r0,1;r1,2;r2,3;");
        String[][] due = {{"1", "1", "1"}, {"1.b", "b", "b"}, {"1.b.iii", "b.iii", "iii"}};
        for (int p = 0; p < 3; p++) {
            for (int level = 0; level < 3; level++) {
                C.due("of " + p + " from " + level, Check.label(x, p, level), due[p][level]);
            }
        }
    }

    private static void labelHasSignsFrom0On() {
        CountedLists x = Check.told(ALL);
        // Of paragraph 1: 1.d
        C.due("sign 0", x.label(1, 0, 0), '1');
        C.due("the last sign", x.label(1, 0, 2), 'd');
        C.due("not so many", x.label(1, 0, 3), Check.NONE);
        C.due("clipped, the last sign", x.label(1, 1, 0), 'd');
        C.due("clipped, not so many", x.label(1, 1, 1), Check.NONE);
        C.due("by far not so many", x.label(1, 0, GREATEST), Check.NONE);
        for (int wrong : new int[] {LEAST, -1}) {
            C.due("j " + wrong, x.label(1, 0, wrong), Check.BAD);
            C.due("j " + wrong + " of a text, ahead of NONE", x.label(3, 0, wrong), Check.BAD);
        }
        for (int wrong : new int[] {LEAST, -1, 3, GREATEST}) {
            C.due("level " + wrong, x.label(1, wrong, 0), Check.BAD);
            C.due("level " + wrong + " of a text, ahead of NONE", x.label(3, wrong, 0), Check.BAD);
        }
        for (int wrong : new int[] {LEAST, -1, 5, GREATEST}) {
            C.due("no paragraph " + wrong, x.label(wrong, 0, 0), Check.BAD);
        }
        C.due("of the last paragraph", x.label(4, 2, 0), Check.NONE);
    }

    private static void theLongestLabel() {
        CountedLists x = Check.told("n2,2,2;r0,18;r1,18;r2,18;");
        for (int n = 3; n < 24; n++) {
            x.put(n, 1, 2, 0);
        }
        // The counter of level 2 comes to 38 behind 20 items.
        C.due("seven signs of 38", Check.label(x, 22, 0), "xviii.xviii.xxxviii");
        C.due("how many signs", x.paragraph(22, 5), 19);
        C.due("the deepest", x.deepest(0), 19);
        C.due("which is that", x.deepest(1), 22);
        C.due("its last sign", x.label(22, 0, 18), 'i');
        C.due("no more", x.label(22, 0, 19), Check.NONE);
        CountedLists y = Check.told("n2,2,2;r0,20;r1,20;r2,20;");
        for (int n = 0; n < 8; n++) {
            y.put(1, 1, 0, 0);
        }
        for (int n = 0; n < 8; n++) {
            y.put(10, 1, 1, 0);
        }
        for (int n = 0; n < 5; n++) {
            y.put(19, 1, 2, 0);
        }
        C.due("three long ones", Check.label(y, 23, 0), "xxviii.xxviii.xxv");
        y.change(18, 2, 2, 18);
        C.due("three long ones", Check.label(y, 18, 0), "xxviii.xxviii.xviii");
    }

    private static void calledFromAnother() {
        CountedLists x = Check.told("n0,0,0;r0,3;r1,4;r2,5;r2,6;r1,5;r2,5;r0,4;r1,4;r2,5;t2,0;h0,0;");
        C.due("all are the same: its own alone", Check.called(x, 2, 2), "5");
        C.due("its own is not the same", Check.called(x, 2, 3), "5");
        C.due("level 1 is not the same", Check.called(x, 2, 5), "4.5");
        C.due("level 0 is not the same, the others are", Check.called(x, 2, 8), "3.4.5");
        C.due("from a text: by what it counts", Check.called(x, 8, 9), "5");
        C.due("from a text: by what it counts", Check.called(x, 2, 9), "3.4.5");
        C.due("from a head: by 0", Check.called(x, 2, 10), "3.4.5");
        C.due("a deeper level is not looked at", Check.called(x, 1, 2), "4");
        C.due("a deeper level is not looked at", Check.called(x, 0, 5), "3");
        CountedLists y = Check.told("n0,0,0;i2,0;i2,0;h0,0;i0,0;");
        C.due("0 and 0 are the same", Check.called(y, 1, 0), "2");
        C.due("of a head's 0, too", Check.called(y, 1, 2), "2");
        C.due("1 and 0 are not", Check.called(y, 1, 3), "0.0.2");
    }

    private static void calledHasSignsFrom0On() {
        CountedLists x = Check.told(ALL);
        C.due("sign 0", x.called(1, 4, 0), '1');
        C.due("the last sign", x.called(1, 4, 2), 'd');
        C.due("not so many", x.called(1, 4, 3), Check.NONE);
        C.due("by far not so many", x.called(1, 4, GREATEST), Check.NONE);
        for (int wrong : new int[] {LEAST, -1}) {
            C.due("j " + wrong, x.called(1, 0, wrong), Check.BAD);
            C.due("j " + wrong + " of a text, ahead of NONE", x.called(3, 0, wrong), Check.BAD);
        }
        for (int wrong : new int[] {LEAST, -1, 5, GREATEST}) {
            C.due("no paragraph " + wrong, x.called(wrong, 0, 0), Check.BAD);
            C.due("from no paragraph " + wrong, x.called(0, wrong, 0), Check.BAD);
            C.due("a text from no paragraph " + wrong, x.called(3, wrong, 0), Check.BAD);
        }
        C.due("the last one from the last one", x.called(4, 4, 0), Check.NONE);
    }

    private static void spanHasParagraphsAndCounters() {
        CountedLists x = Check.told(ALL);
        for (int wrong : new int[] {LEAST, -1, 5, GREATEST}) {
            C.due("a " + wrong, x.span(wrong, 4, 0, 0), Check.BAD);
            C.due("b " + wrong, x.span(0, wrong, 0, 0), Check.BAD);
            C.due("a and b " + wrong, x.span(wrong, wrong, 0, 0), Check.BAD);
        }
        for (int b = 0; b < 4; b++) {
            C.due("a above b", x.span(b + 1, b, 0, 0), Check.BAD);
        }
        for (int wrong : new int[] {LEAST, -1, 6, GREATEST}) {
            C.due("counter " + wrong, x.span(0, 0, wrong, 0), Check.BAD);
        }
        for (int wrong : new int[] {LEAST, -1, 2, GREATEST}) {
            C.due("what " + wrong, x.span(0, 0, 0, wrong), Check.BAD);
        }
        C.due("one alone, the first", x.span(0, 0, 0, 1), 1);
        C.due("one alone, the last", x.span(4, 4, 5, 0), 2);
        C.due("all", x.span(0, 4, 3, 0), 3);
        C.due("all", x.span(0, 4, 5, 1), 1);
    }

    private static void dueSpan(CountedLists x, int a, int b, int counter, int source, int more) {
        String call = "span from " + a + " to " + b + " of " + counter;
        C.due(call + ": source", x.span(a, b, counter, 0), source);
        C.due(call + ": how much more", x.span(a, b, counter, 1), more);
    }

    private static void spanHasSources() {
        CountedLists x = Check.told("n0,0,0;t0,0;c0,0;h0,0;r0,0;r2,20;i2,0;h0,0;h0,0;");
        for (int counter = 0; counter < 6; counter++) {
            dueSpan(x, 0, 0, counter, counter, 0);
        }
        dueSpan(x, 1, 1, 0, 3, 1);
        dueSpan(x, 1, 1, 1, -1, 0);
        dueSpan(x, 1, 1, 3, 3, 0);
        dueSpan(x, 2, 2, 0, -1, 0);
        dueSpan(x, 2, 2, 3, 0, 0);
        dueSpan(x, 2, 2, 5, 2, 0);
        dueSpan(x, 1, 2, 3, 3, 1);
        dueSpan(x, 3, 3, 0, -1, 0);
        dueSpan(x, 4, 5, 2, -1, 21);
        dueSpan(x, 4, 5, 0, 0, 0);
        dueSpan(x, 5, 5, 2, 2, 1);
        dueSpan(x, 6, 7, 3, -1, 0);
        dueSpan(x, 5, 6, 5, 2, 1);
        // Whatever the counters are ahead of the span: those of paragraph 4 do not come in.
        dueSpan(x, 5, 6, 4, 1, 0);
    }

    private static void spanOfAFullSheet() {
        CountedLists x = Check.upTo43(0);
        dueSpan(x, 0, 23, 0, -1, 43);
        dueSpan(x, 1, 23, 0, 0, 23);
        dueSpan(x, 23, 23, 0, 0, 1);
        dueSpan(x, 0, 23, 1, -1, 0);
        dueSpan(x, 0, 23, 5, 5, 0);
    }

    public static void main(String[] args) {
        countersAre0AheadOfAll();
        deeperLevelsBecome0();
        startsAre0To20();
        resumedTakesWhatIsKept();
        textsAndHeads();
        numeralsOfEachStyle();
        numeralsUpTo43();
        theNumber0IsTheSign0();
        textsAndHeadsHaveNoSigns();
        paragraphAsksWhat0To5();
        labelIsClipped();
        labelHasSignsFrom0On();
        theLongestLabel();
        calledFromAnother();
        calledHasSignsFrom0On();
        spanHasParagraphsAndCounters();
        spanHasSources();
        spanOfAFullSheet();
        C.end();
    }
}
