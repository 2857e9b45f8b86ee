/**
 * What the tests share: answers held against what is due, and sheets told by a text. Nothing is promised
 * beyond 512 calls of an object, so helpers are sparing with them.
 */
final class Check {
    static final int NULL = -1000011, PLACE = -1000012, KIND = -1000013, SIZE = -1000014, STORE = -1000015;
    static final int NONE = -1000000, BAD = -1000001, STATE = -1000002, FULL = -1000003;

    private int wrong = 0;
    private int calls = 0;

    void due(String call, long got, long want) {
        calls++;
        if (got != want) {
            wrong++;
            System.out.println(call + " answered " + got + ", due is " + want);
        }
    }

    void due(String call, String got, String want) {
        calls++;
        if (!got.equals(want)) {
            wrong++;
            System.out.println(call + " answered \"" + got + "\", due is \"" + want + "\"");
        }
    }

    void end() {
        System.out.println(calls + " answers, " + wrong + " wrong");
        if (wrong != 0) {
            System.exit(1);
        }
    }

    static void feed(CountedLists x, String text) {
        for (int i = 0; i < text.length(); i++) {
            x.feed(text.charAt(i));
        }
    }

    static int tell(CountedLists x, String text) {
        feed(x, text);
        return x.sheet();
    }

    static CountedLists told(String text) {
        CountedLists x = new CountedLists();
        int answer = tell(x, text);
        if (answer < 0) {
            throw new IllegalStateException("the sheet " + text + " answered " + answer);
        }
        return x;
    }

    /** The label clipped from a level on, sign by sign. */
    static String label(CountedLists x, int paragraph, int level) {
        StringBuilder signs = new StringBuilder();
        for (int sign = x.label(paragraph, level, 0); sign >= 0; sign = x.label(paragraph, level, signs.length())) {
            signs.append((char) sign);
        }
        return signs.toString();
    }

    static String called(CountedLists x, int paragraph, int from) {
        StringBuilder signs = new StringBuilder();
        for (int sign = x.called(paragraph, from, 0); sign >= 0; sign = x.called(paragraph, from, signs.length())) {
            signs.append((char) sign);
        }
        return signs.toString();
    }

    /** All that a sheet shows: kinds, levels, starts, counts and labels. */
    static String shown(CountedLists x) {
        StringBuilder all = new StringBuilder();
        int many = x.count(1);
        for (int p = 0; p < many; p++) {
            all.append(" ircth".charAt(x.kind(p))).append(x.paragraph(p, 0)).append(',').append(x.paragraph(p, 1));
            all.append('=').append(label(x, p, 0)).append(' ');
        }
        return all.toString().trim();
    }

    static void fill(CountedLists x, int row, int lane, int... items) {
        x.row(row, lane, items.length);
        for (int i = 0; i < items.length; i++) {
            x.set(row, i, items[i]);
        }
    }

    static void fill(CountedLists x, int row, String codes) {
        fill(x, row, 0, codes.chars().toArray());
    }
}
