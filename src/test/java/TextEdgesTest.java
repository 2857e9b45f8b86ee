/** The edges of texts: the tape, tokens, faults, sheets; promises 1 and 6 to 8, a test for each sentence. */
public final class TextEdgesTest {
    private static final Check C = new Check();
    private static final int LEAST = Integer.MIN_VALUE, GREATEST = Integer.MAX_VALUE;
    private static final int AT = -1000100;
    private static final int CANNOT_STAND = 1, NOT_AS_TOLD = 2, NO_ROOM = 3;

    /** On a new object: the answer to sheet(), and the fault behind it. */
    private static void due(String sentence, String text, int answer, int fault) {
        CountedLists x = new CountedLists();
        C.due(sentence + ": " + text, Check.tell(x, text), answer);
        C.due(sentence + ": fault of " + text, x.fault(), fault);
        C.due(sentence + ": paragraphs of " + text, x.count(1), Math.max(answer, 0));
        C.due(sentence + ": tape behind " + text, x.count(5), 0);
    }

    private static void dueFault(String sentence, String text, int place, int fault) {
        due(sentence, text, AT - place, fault);
    }

    private static String paragraphs(int n) {
        return "i0,0;".repeat(n);
    }

    private static void noSheetAtFirst() {
        CountedLists x = new CountedLists();
        C.due("no paragraphs", x.count(1), 0);
        for (int one : new int[] {LEAST, -1, 0, 1, GREATEST}) {
            C.due("no paragraph " + one + ": take", x.take(one), Check.BAD);
            C.due("no paragraph " + one + ": move", x.move(one, one), Check.BAD);
            C.due("no paragraph " + one + ": change", x.change(one, 1, 0, 0), Check.BAD);
            C.due("no paragraph " + one + ": paragraph", x.paragraph(one, 0), Check.BAD);
            C.due("no paragraph " + one + ": label", x.label(one, 0, 0), Check.BAD);
            C.due("no paragraph " + one + ": called", x.called(one, one, 0), Check.BAD);
            C.due("no paragraph " + one + ": span", x.span(one, one, 0, 0), Check.BAD);
            C.due("no paragraph " + one + ": changed", x.changed(one), Check.BAD);
            C.due("no paragraph " + one + ": nearest", x.nearest(one, 0), Check.BAD);
            C.due("no paragraph " + one + ": who", x.who(one, 0, 0, 0, 1), Check.BAD);
            C.due("no paragraph " + one + ": lost", x.lost(one, 0, 0, 0), Check.BAD);
            C.due("no paragraph " + one + ": kind", x.kind(one), Check.BAD);
            C.due("no paragraph " + one + ": as", x.as(one, 0), Check.BAD);
            C.due("no paragraph " + one + ": ask", x.ask(one, 0), Check.BAD);
        }
        C.due("no image", x.restore(0), Check.STATE);
        C.due("no image", x.restore(1), Check.STATE);
        C.due("no act", x.undo(), Check.STATE);
        C.due("no fault", x.fault(), 0);
        C.due("no finding", x.status(), 0);
        C.due("no trace", x.trace(0), Check.NONE);
    }

    private static void noSheetIsAheadOfBad() {
        CountedLists x = new CountedLists();
        int[][] places = {{0, 1, 0, 0}, {-1, 1, 0, 0}, {1, 1, 0, 0}, {0, 0, 0, 0}, {0, 6, 0, 0}, {0, 1, 3, 0},
            {0, 1, 0, 21}, {GREATEST, LEAST, GREATEST, LEAST}};
        for (int[] a : places) {
            C.due("put", x.put(a[0], a[1], a[2], a[3]), Check.STATE);
        }
        for (int v : new int[] {LEAST, -1, 0, 1, 4, 100, GREATEST}) {
            C.due("style " + v, x.style(v, v), Check.STATE);
            C.due("register " + v, x.register(v), Check.STATE);
            C.due("bears of row " + v, x.bears(v, 0, 1), Check.STATE);
            C.due("bears of so many: " + v, x.bears(0, 0, v), Check.STATE);
            C.due("sets " + v, x.sets(v), Check.STATE);
            C.due("deepest " + v, x.deepest(v), Check.STATE);
            C.due("drawn " + v, x.drawn(v, v, v), Check.STATE);
        }
        C.due("image 0", x.image(0), Check.STATE);
        C.due("image 1", x.image(1), Check.STATE);
        C.due("image 2: BAD is ahead there", x.image(2), Check.BAD);
        C.due("image -1: BAD is ahead there", x.image(-1), Check.BAD);
    }

    private static void bytesAre0To255() {
        CountedLists x = new CountedLists();
        for (int letter : new int[] {LEAST, -1, 256, GREATEST}) {
            C.due("no byte " + letter, x.feed(letter), Check.BAD);
        }
        C.due("nothing came", x.count(5), 0);
        C.due("byte 0", x.feed(0), 1);
        C.due("byte 255", x.feed(255), 2);
    }

    private static void theTapeHas130() {
        CountedLists x = new CountedLists();
        Check.feed(x, "n0,0,0;" + "i0,20;".repeat(16) + "h");
        for (int n = 105; n <= 130; n++) {
            C.due("byte " + n, x.feed('?'), n);
        }
        C.due("one byte more", x.feed('n'), Check.FULL);
        C.due("byte 0 is too much, too", x.feed(0), Check.FULL);
        C.due("BAD is ahead of FULL", x.feed(-1), Check.BAD);
        C.due("BAD is ahead of FULL", x.feed(256), Check.BAD);
        C.due("130 are there", x.count(5), 130);
        C.due("as they came", x.sheet(), AT - 103);
        C.due("as they came", x.fault(), NO_ROOM);
        C.due("there is room again", x.feed('n'), 1);
    }

    private static void aFullTapeIsReadToItsEnd() {
        dueFault("the last of 130 bytes", "n1,1,1;i0" + "?".repeat(121), 9, CANNOT_STAND);
        dueFault("130 figures", "9".repeat(130), 0, CANNOT_STAND);
        dueFault("129 figures behind the n", "n" + "9".repeat(129), 1, CANNOT_STAND);
    }

    private static void onlyTheseBytesCanStand() {
        String figures = "0123456789";
        String[] ahead = {"", "n", "n0", "n0,", "n0,0", "n0,0,", "n0,0,0", "n0,0,0;", "n0,0,0;i", "n0,0,0;i0",
            "n0,0,0;i0,", "n0,0,0;i0,0", "n0,0,0;i0,0;"};
        String[] stands = {"n", figures, figures + ",", figures, figures + ",", figures, figures + ";", "ircth",
            figures, figures + ",", figures, figures + ";", "ircth"};
        for (int k = 0; k < ahead.length; k++) {
            for (int letter = 0; letter < 256; letter++) {
                if (stands[k].indexOf(letter) < 0) {
                    dueFault("byte " + letter, ahead[k] + (char) letter, ahead[k].length(), CANNOT_STAND);
                }
            }
        }
    }

    private static void numbersHaveTwoFigures() {
        due("one figure each", "n0,0,0;i0,0;", 1, 0);
        due("two figures each", "n00,01,03;i02,20;", 1, 0);
        String[][] sheets = {{"n", ",0,0;i0,0;"}, {"n0,", ",0;i0,0;"}, {"n0,0,", ";i0,0;"}, {"n0,0,0;i", ",0;"},
            {"n0,0,0;i0,", ";"}};
        for (String[] s : sheets) {
            dueFault("three figures, at the first", s[0] + "000" + s[1], s[0].length(), CANNOT_STAND);
            dueFault("three figures, not as told at that", s[0] + "999" + s[1], s[0].length(), CANNOT_STAND);
            dueFault("four figures, no two numbers", s[0] + "0000" + s[1], s[0].length(), CANNOT_STAND);
            dueFault("many figures, that wrap around to 0", s[0] + "4294967296" + s[1], s[0].length(), CANNOT_STAND);
            dueFault("two figures cannot be told apart", s[0] + "0 0" + s[1], s[0].length() + 1, CANNOT_STAND);
            dueFault("no number", s[0] + s[1], s[0].length(), CANNOT_STAND);
            dueFault("three figures at the end", s[0] + "000", s[0].length(), CANNOT_STAND);
        }
        dueFault("three figures where none can stand", "000n", 0, CANNOT_STAND);
        dueFault("three figures in place of a sign", "n0,0,0;i0,0;123", 12, CANNOT_STAND);
    }

    private static void numbersAreAsTold() {
        String[][] sheets = {{"n", ",0,0;i0,0;"}, {"n0,", ",0;i0,0;"}, {"n0,0,", ";i0,0;"}, {"n0,0,0;i", ",0;"},
            {"n0,0,0;i0,", ";"}};
        int[] most = {3, 3, 3, 2, 20};
        for (int k = 0; k < sheets.length; k++) {
            for (int v = 0; v <= 99; v++) {
                boolean fine = v <= most[k];
                due("number " + k, sheets[k][0] + v + sheets[k][1], fine ? 1 : AT - sheets[k][0].length(),
                    fine ? 0 : NOT_AS_TOLD);
            }
        }
    }

    private static void eachNumberComesToItsPlace() {
        for (int level = 0; level <= 2; level++) {
            for (int start = 0; start <= 20; start += 10) {
                CountedLists x = Check.told("n0,0,0;r" + level + "," + start + ";");
                C.due("level", x.paragraph(0, 0), level);
                C.due("start", x.paragraph(0, 1), start);
                C.due("counts of its level", x.paragraph(0, 2 + level), start);
            }
        }
        for (int style = 0; style <= 3; style++) {
            CountedLists x = Check.told("n" + style + "," + (3 - style) + "," + (style + 1) % 4 + ";t0,0;");
            C.due("style of level 0", x.style(0, 0), style);
            C.due("style of level 1", x.style(1, 0), 3 - style);
            C.due("style of level 2", x.style(2, 0), (style + 1) % 4);
        }
    }

    private static void sortsAreFive() {
        String sorts = "ircth";
        for (int k = 0; k < 5; k++) {
            CountedLists x = Check.told("n0,0,0;" + sorts.charAt(k) + "0,0;");
            C.due("kind of " + sorts.charAt(k), x.kind(0), k + 1);
        }
    }

    private static void sixteenAreTold() {
        String law = "n0,0,0;";
        due("no paragraph at all", law, AT - 7, CANNOT_STAND);
        due("one", law + paragraphs(1), 1, 0);
        due("fifteen", law + paragraphs(15), 15, 0);
        due("sixteen", law + paragraphs(16), 16, 0);
        due("the longest sixteen", "n03,03,03;" + "r02,20;".repeat(16), 16, 0);
        dueFault("seventeen", law + paragraphs(17), 87, NO_ROOM);
        for (char sort : "ircth".toCharArray()) {
            dueFault("a letter beyond sixteen", law + paragraphs(16) + sort, 87, NO_ROOM);
        }
        dueFault("room is ahead of what comes behind the letter", law + paragraphs(16) + "i9,99;", 87, NO_ROOM);
        dueFault("what comes ahead is ahead", law + paragraphs(15) + "i0,21;" + "i0,0;", 85, NOT_AS_TOLD);
    }

    private static void ofOneTokenTheLeast() {
        String sixteen = "n0,0,0;" + paragraphs(16);
        for (char other : "nabz,;?I".toCharArray()) {
            dueFault("no sort, and no room", sixteen + other, 87, CANNOT_STAND);
        }
        dueFault("a number, and no room", sixteen + "99", 87, CANNOT_STAND);
        dueFault("a number that is too great, and cannot stand there", "99", 0, CANNOT_STAND);
        dueFault("a number that is too great, and cannot stand there", "n0,0,0;99", 7, CANNOT_STAND);
        dueFault("a number that is too great, and cannot stand there", "n0,0,0;i0,0;21", 12, CANNOT_STAND);
        dueFault("a number that is too great, and is no token", "n999,0,0;", 1, CANNOT_STAND);
    }

    private static void theFirstTokenThatHasOne() {
        dueFault("1 ahead of 2", "n0,0;4;", 4, CANNOT_STAND);
        dueFault("2 ahead of 1", "n0,4;0;", 3, NOT_AS_TOLD);
        dueFault("2 ahead of the end", "n4", 1, NOT_AS_TOLD);
        dueFault("2 ahead of 2", "n0,0,0;i3,21;", 8, NOT_AS_TOLD);
        dueFault("2 behind what is fine", "n0,0,0;i2,21;", 10, NOT_AS_TOLD);
        dueFault("at the first byte of two figures", "n10,0,0;i0,0;", 1, NOT_AS_TOLD);
        dueFault("behind two figures", "n01,02,03;i02,20,", 16, CANNOT_STAND);
        dueFault("a second law", "n0,0,0;n0,0,0;", 7, CANNOT_STAND);
        dueFault("a paragraph ahead of the law", "i0,0;n0,0,0;", 0, CANNOT_STAND);
        dueFault("the last token", "n0,0,0;i0,0;?", 12, CANNOT_STAND);
    }

    private static void theEndIsHowManyBytesThereAre() {
        String text = "n0,01,2;i0,0;r1,20;h02,5;";
        for (int n = 0; n < text.length(); n++) {
            boolean whole = n == 13 || n == 19;
            due("cut at " + n, text.substring(0, n), whole ? n / 6 - 1 : AT - n, whole ? 0 : CANNOT_STAND);
        }
        due("whole", text, 3, 0);
        due("the empty tape", "", AT, CANNOT_STAND);
    }

    private static void eachTapeIsReadAnew() {
        CountedLists x = new CountedLists();
        C.due("a fault at an n", Check.tell(x, "n0,0,0;n"), AT - 7);
        C.due("what is no n", Check.tell(x, "?0,0,0;i0,0;"), AT);
        C.due("a fault at a number", Check.tell(x, "n0,0,0;i3"), AT - 8);
        C.due("no number", Check.tell(x, "n?"), AT - 1);
        C.due("a fault at the end", Check.tell(x, "n0"), AT - 2);
        C.due("a sheet", Check.tell(x, "n0,0,0;i0,0;i1,0;"), 2);
        C.due("the end at once", x.sheet(), AT);
        C.due("a shorter sheet", Check.tell(x, "n0,0,0;t0,0;"), 1);
    }

    private static void faultIsTheLatest() {
        CountedLists x = new CountedLists();
        C.due("0 before one", x.fault(), 0);
        Check.tell(x, "n0,0,0;i0,0;");
        C.due("0 behind a sheet without one", x.fault(), 0);
        Check.tell(x, "n4");
        C.due("2", x.fault(), 2);
        Check.tell(x, "n0,0,0;i0,0;");
        C.due("a sheet without one leaves it", x.fault(), 2);
        Check.tell(x, "n0,0,0;" + paragraphs(17));
        C.due("3", x.fault(), 3);
        x.feed(256);
        x.put(-1, 0, 0, 0);
        x.drop(9);
        C.due("refusals leave it", x.fault(), 3);
        x.sheet();
        C.due("1, of the empty tape", x.fault(), 1);
    }

    private static CountedLists busy() {
        CountedLists x = Check.told("n0,1,2;i0,0;");
        x.image(0);
        Check.tell(x, "n3,0,0;i0,0;r1,7;h0,0;");
        x.put(3, 3, 1, 0);
        x.take(0);
        x.ask(0, 0);
        x.set(5, 0, 0);
        return x;
    }

    private static void aFaultLeavesAll() {
        String[] wrong = {"", "n", "n4", "n0,0,0;", "n0,0,0;t0,0;?", "n1,1,1;" + paragraphs(17)};
        for (String text : wrong) {
            CountedLists x = busy();
            String before = Check.shown(x);
            C.due("a fault", Check.tell(x, text) <= AT ? 1 : 0, 1);
            C.due("the tape is empty behind " + text, x.count(5), 0);
            C.due("paragraphs stay behind " + text, Check.shown(x), before);
            C.due("the finding stays", x.status(), 1);
            C.due("the trace stays", x.trace(0), 12);
            C.due("acts stay behind " + text, x.undo(), 1);
            C.due("and can be undone", x.undo(), 0);
            C.due("styles stay behind " + text, x.style(0, 0), 3);
            C.due("images stay behind " + text, x.restore(0), 1);
            C.due("as they were", Check.shown(x), "i0,0=1");
        }
    }

    private static void aFaultWithoutASheetLeavesNone() {
        CountedLists x = new CountedLists();
        Check.tell(x, "n1,1,1;i0,0;i0,0;?");
        C.due("there is none yet", x.count(1), 0);
        C.due("there is none yet", x.register(0), Check.STATE);
        C.due("one can come", Check.tell(x, "n0,0,0;i0,0;"), 1);
    }

    private static void aSheetStandsInPlaceOfTheOneBefore() {
        CountedLists x = busy();
        C.due("another sheet", Check.tell(x, "n2,2,2;r0,4;"), 1);
        C.due("in its place", Check.shown(x), "r0,4=iv");
        C.due("no act can be undone", x.count(4), 0);
        C.due("no act can be undone", x.undo(), Check.STATE);
        C.due("still in its place", Check.shown(x), "r0,4=iv");
        C.due("the tape is empty", x.count(5), 0);
        C.due("the finding stays", x.status(), 1);
        C.due("images stay", x.restore(0), 1);
        C.due("one that was not kept", x.restore(1), Check.STATE);
    }

    public static void main(String[] args) {
        noSheetAtFirst();
        noSheetIsAheadOfBad();
        bytesAre0To255();
        theTapeHas130();
        aFullTapeIsReadToItsEnd();
        onlyTheseBytesCanStand();
        numbersHaveTwoFigures();
        numbersAreAsTold();
        eachNumberComesToItsPlace();
        sortsAreFive();
        sixteenAreTold();
        ofOneTokenTheLeast();
        theFirstTokenThatHasOne();
        theEndIsHowManyBytesThereAre();
        eachTapeIsReadAnew();
        faultIsTheLatest();
        aFaultLeavesAll();
        aFaultWithoutASheetLeavesNone();
        aSheetStandsInPlaceOfTheOneBefore();
        C.end();
    }
}
