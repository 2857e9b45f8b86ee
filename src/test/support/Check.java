/**
 * What the tests share: answers held against what is due, and sheets told by a text. Nothing is promised
 * beyond 512 calls of an object, so helpers are sparing with them.
 */
final class Check {
    static final int NULL = -1000011, PLACE = -1000012, KIND = -1000013, SIZE = -1000014, STORE = -1000015;
    static final int NONE = -1000000, BAD = -1000001, STATE = -1000002, FULL = -1000003;

    private int wrong = 0;
    private int calls = 0;

    void due(String call, long got, long want) {
        calls++;
        if (got != want) {
            wrong++;
            System.out.println(call + " answered " + got + ", due is " + want);
        }
    }

    void due(String call, String got, String want) {
        calls++;
        if (!got.equals(want)) {
            wrong++;
            System.out.println(call + " answered \"" + got + "\", due is \"" + want + "\"");
        }
    }

    void end() {
        System.out.println(calls + " answers, " + wrong + " wrong");
        if (wrong != 0) {
            System.exit(1);
        }
    }

    static void feed(CountedLists x, String text) {
        for (int i = 0; i < text.length(); i++) {
            x.feed(text.charAt(i));
        }
    }

    static int tell(CountedLists x, String text) {
        feed(x, text);
        return x.sheet();
    }

    static CountedLists told(String text) {
        CountedLists x = new CountedLists();
        int answer = tell(x, text);
        if (answer < 0) {
            throw new IllegalStateException("the sheet " + text + " answered " + answer);
        }
        return x;
    }

    /** A restart of 20 and 23 items: a full sheet, that counts up to 43, the most that can be counted. */
    static CountedLists upTo43(int style) {
        CountedLists x = told("n" + style + ",0,0;r0,20;");
        for (int n = 1; n < 24; n++) {
            x.put(n, 1, 0, 0);
        }
        return x;
    }

    /** Each edit by a seed, done by put and take on the sheet itself, comes to what drawn tells of the other one. */
    void dueEdits(CountedLists told, CountedLists done, int seed) {
        long x = seed;
        for (int n = 1; n <= 60; n++) {
            x = x * 16807 % 2147483647;
            int many = done.count(1);
            int at = (int) (x / 8 % many);
            if (x % 2 == 0 && many < 24) {
                done.put(at, (int) (1 + x / 64 % 5), (int) (x / 512 % 3), (int) (x / 4096 % 21));
            } else if (many > 1) {
                done.take(at);
            }
            due("how many after " + n + " by " + seed, told.drawn(n, seed, 0), done.count(1));
            due("counts after " + n + " by " + seed, told.drawn(n, seed, 1), done.count(3));
        }
    }

    /** The label clipped from a level on, sign by sign. */
    static String label(CountedLists x, int paragraph, int level) {
        StringBuilder signs = new StringBuilder();
        for (int sign = x.label(paragraph, level, 0); sign >= 0; sign = x.label(paragraph, level, signs.length())) {
            signs.append((char) sign);
        }
        return signs.toString();
    }

    static String called(CountedLists x, int paragraph, int from) {
        StringBuilder signs = new StringBuilder();
        for (int sign = x.called(paragraph, from, 0); sign >= 0; sign = x.called(paragraph, from, signs.length())) {
            signs.append((char) sign);
        }
        return signs.toString();
    }

    /** All that a sheet shows: kinds, levels, starts, counts and labels. */
    static String shown(CountedLists x) {
        StringBuilder all = new StringBuilder();
        int many = x.count(1);
        for (int p = 0; p < many; p++) {
            all.append(" ircth".charAt(x.kind(p))).append(x.paragraph(p, 0)).append(',').append(x.paragraph(p, 1));
            all.append('=').append(label(x, p, 0)).append(' ');
        }
        return all.toString().trim();
    }

    static void fill(CountedLists x, int row, int lane, int... items) {
        x.row(row, lane, items.length);
        for (int i = 0; i < items.length; i++) {
            x.set(row, i, items[i]);
        }
    }

    static void fill(CountedLists x, int row, String codes) {
        fill(x, row, 0, codes.chars().toArray());
    }
}
