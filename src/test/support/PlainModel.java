import java.math.BigInteger;
import java.util.ArrayDeque;
import java.util.ArrayList;
import java.util.Comparator;
import java.util.Deque;
import java.util.List;
import java.util.regex.Matcher;
import java.util.regex.Pattern;

/**
 * The document a second time, as plainly as the Java library allows: everything is counted anew at
 * each call, and undone by copies of the whole sheet. Shares no code with CountedLists.
 */
final class PlainModel {
    static final int NONE = -1000000, BAD = -1000001, STATE = -1000002, FULL = -1000003;

    static final class Refused extends RuntimeException {
        private static final long serialVersionUID = 1L;
        final int answer;

        Refused(int answer) {
            super(null, null, false, false);
            this.answer = answer;
        }
    }

    // The kinds as classes, so that Java itself says what each one is and which body begins.
    static class Paragraph {
        int level;
        int start;
        PlainModel of;

        int kind() {
            return 0;
        }

        int number() {
            for (int p = 0; p < of.sheet.size(); p++) {
                if (of.sheet.get(p) == this) {
                    return p;
                }
            }
            throw new IllegalStateException();
        }

        int ownCount() {
            return of.counts(of.sheet, number())[level];
        }

        int size() {
            of.traced.add(10);
            return start;
        }

        int mark() {
            of.traced.add(20);
            return number();
        }
    }

    static class Item extends Paragraph {
        @Override
        int kind() {
            return 1;
        }

        @Override
        int size() {
            of.traced.add(11);
            int given = super.size();
            return given + mark();
        }

        @Override
        int mark() {
            of.traced.add(21);
            return super.mark() + ownCount();
        }
    }

    static final class Restart extends Item {
        @Override
        int kind() {
            return 2;
        }

        @Override
        int size() {
            of.traced.add(12);
            return 0 - super.size();
        }

        @Override
        int mark() {
            of.traced.add(24);
            return super.mark() * 2;
        }
    }

    static final class Resumed extends Item {
        @Override
        int kind() {
            return 3;
        }

        @Override
        int mark() {
            of.traced.add(22);
            return super.mark() - 1000;
        }
    }

    static class Text extends Paragraph {
        @Override
        int kind() {
            return 4;
        }

        @Override
        int size() {
            of.traced.add(13);
            return super.size() - 100;
        }

        @Override
        int mark() {
            of.traced.add(23);
            int given = super.mark();
            return given - size();
        }
    }

    static final class Head extends Text {
        @Override
        int kind() {
            return 5;
        }

        @Override
        int size() {
            of.traced.add(14);
            return super.size() * 2;
        }
    }

    private static final Class<?>[] CLASSES = {
        Paragraph.class, Item.class, Restart.class, Resumed.class, Text.class, Head.class};

    record Kept(List<Paragraph> sheet, int[] styles) {
    }

    private final int[][] rows = new int[8][];
    private final int[] lanes = new int[8];
    private StringBuilder tape = new StringBuilder();
    List<Paragraph> sheet = null;
    private int[] styles = {0, 0, 0};
    private final Deque<Kept> undone = new ArrayDeque<>();
    private final Kept[] images = new Kept[2];
    private int fault = 0;
    private int status = 0;
    List<Integer> traced = new ArrayList<>();

    private static void want(boolean fits) {
        if (!fits) {
            throw new Refused(BAD);
        }
    }

    private static void refuse(boolean fits, int answer) {
        if (fits) {
            throw new Refused(answer);
        }
    }

    private void find(boolean fits, int number) {
        if (fits) {
            status = number;
            throw new Refused(-1000010 - number);
        }
    }

    private static boolean in(int v, int least, int most) {
        return least <= v && v <= most;
    }

    private boolean there(int p) {
        return sheet != null && in(p, 0, sheet.size() - 1);
    }

    private Paragraph made(int kind, int level, int start) {
        Paragraph p = switch (kind) {
            case 1 -> new Item();
            case 2 -> new Restart();
            case 3 -> new Resumed();
            case 4 -> new Text();
            default -> new Head();
        };
        p.level = level;
        p.start = start;
        p.of = this;
        return p;
    }

    private static void step(int[] c, Paragraph p) {
        int kind = p.kind();
        if (kind == 4) {
            return;
        }
        if (kind == 5) {
            for (int l = 0; l < 3; l++) {
                c[3 + l] = c[l];
                c[l] = 0;
            }
            return;
        }
        if (kind == 3) {
            for (int l = 0; l < 3; l++) {
                c[l] = c[3 + l];
            }
        }
        c[p.level] = kind == 2 ? p.start : c[p.level] + 1;
        for (int l = p.level + 1; l < 3; l++) {
            c[l] = 0;
        }
    }

    int[] counts(List<Paragraph> all, int upTo) {
        int[] c = new int[6];
        for (int p = 0; p <= upTo; p++) {
            step(c, all.get(p));
        }
        return c;
    }

    private static final String[] ROMAN_TENS = {"", "x", "xx", "xxx", "xl", "l", "lx", "lxx", "lxxx"};
    private static final String[] ROMAN_ONES = {"", "i", "ii", "iii", "iv", "v", "vi", "vii", "viii", "ix"};

    private static String numerals(int v, int style) {
        if (v == 0 || style == 0) {
            return String.valueOf(v);
        }
        if (style == 2) {
            return ROMAN_TENS[v / 10] + ROMAN_ONES[v % 10];
        }
        String small = "";
        for (int rest = v; rest > 0; rest = (rest - 1) / 26) {
            small = (char) ('a' + (rest - 1) % 26) + small;
        }
        return style == 1 ? small : small.toUpperCase();
    }

    private static boolean labelled(Paragraph p) {
        return p instanceof Item;
    }

    private String clipped(List<Paragraph> all, int p, int from) {
        Paragraph one = all.get(p);
        if (!labelled(one)) {
            return "";
        }
        int[] c = counts(all, p);
        List<String> parts = new ArrayList<>();
        for (int l = Math.min(from, one.level); l <= one.level; l++) {
            parts.add(numerals(c[l], styles[l]));
        }
        return String.join(".", parts);
    }

    private Kept snapshot() {
        List<Paragraph> all = new ArrayList<>();
        for (Paragraph p : sheet) {
            all.add(made(p.kind(), p.level, p.start));
        }
        return new Kept(all, styles.clone());
    }

    private void keep() {
        undone.addLast(snapshot());
        if (undone.size() > 24) {
            undone.removeFirst();
        }
    }

    int row(int row, int lane, int n) {
        want(in(row, 0, 7) && in(lane, 0, 2) && n <= 40);
        find(n < 0, 4);
        rows[row] = new int[n];
        lanes[row] = lane;
        status = 0;
        return n;
    }

    int set(int row, int i, int v) {
        want(in(row, 0, 7));
        find(rows[row] == null, 1);
        find(!in(i, 0, rows[row].length - 1), 2);
        rows[row][i] = lanes[row] == 0 ? (byte) v : lanes[row] == 1 ? (short) v : v;
        status = 0;
        return rows[row][i];
    }

    int copy(int a, int i, int b, int j, int n) {
        want(in(a, 0, 7) && in(b, 0, 7));
        find(rows[a] == null || rows[b] == null, 1);
        find(lanes[a] != lanes[b], 5);
        find(i < 0 || j < 0 || n < 0, 2);
        find((long) i + n > rows[a].length || (long) j + n > rows[b].length, 2);
        int[] were = rows[a].clone();
        for (int k = 0; k < n; k++) {
            rows[b][j + k] = were[i + k];
        }
        status = 0;
        return n;
    }

    int drop(int row) {
        want(in(row, 0, 7));
        find(rows[row] == null, 1);
        int had = rows[row].length;
        rows[row] = null;
        status = 0;
        return had;
    }

    int feed(int letter) {
        want(in(letter, 0, 255));
        refuse(tape.length() == 130, FULL);
        tape.append((char) letter);
        return tape.length();
    }

    private static final Pattern TOKEN = Pattern.compile("[0-9]+|[\\s\\S]");

    // The sheet of the text, or null with the fault in at[0], its number in at[1].
    private List<Paragraph> parsed(String text, int[] law, int[] at) {
        List<String> tokens = new ArrayList<>();
        List<Integer> places = new ArrayList<>();
        Matcher m = TOKEN.matcher(text);
        while (m.find()) {
            tokens.add(m.group());
            places.add(m.start());
        }
        tokens.add("");
        places.add(text.length());
        String[] lawForm = {"n", "#3", ",", "#3", ",", "#3", ";"};
        String[] form = {"s", "#2", ",", "#20", ";"};
        List<Paragraph> read = new ArrayList<>();
        int[] numbers = new int[3];
        for (int t = 0;; t++) {
            String token = tokens.get(t);
            at[0] = places.get(t);
            boolean ofLaw = t < 7;
            int k = ofLaw ? t : (t - 7) % 5;
            String due = ofLaw ? lawForm[k] : form[k];
            if (token.isEmpty() && t > 7 && k == 0) {
                return read;
            }
            if (due.equals("s")) {
                at[1] = token.length() != 1 || "ircth".indexOf(token) < 0 ? 1 : read.size() == 16 ? 3 : 0;
                numbers[0] = "ircth".indexOf(token) + 1;
            } else if (due.startsWith("#")) {
                boolean number = token.matches("[0-9]{1,2}");
                int value = number ? Integer.parseInt(token) : 0;
                at[1] = !number ? 1 : value > Integer.parseInt(due.substring(1)) ? 2 : 0;
                if (ofLaw) {
                    law[k / 2] = value;
                } else {
                    numbers[(k + 1) / 2] = value;
                }
            } else {
                at[1] = token.equals(due) ? 0 : 1;
            }
            if (at[1] != 0) {
                return null;
            }
            if (!ofLaw && k == 4) {
                read.add(made(numbers[0], numbers[1], numbers[2]));
            }
        }
    }

    int sheet() {
        String text = tape.toString();
        tape = new StringBuilder();
        int[] law = new int[3];
        int[] at = new int[2];
        List<Paragraph> read = parsed(text, law, at);
        if (read == null) {
            fault = at[1];
            return -1000100 - at[0];
        }
        sheet = read;
        styles = law;
        undone.clear();
        return sheet.size();
    }

    int fault() {
        return fault;
    }

    int undo() {
        refuse(undone.isEmpty(), STATE);
        Kept before = undone.removeLast();
        sheet = before.sheet();
        styles = before.styles();
        return undone.size();
    }

    int put(int place, int kind, int level, int begin) {
        refuse(sheet == null, STATE);
        want(in(place, 0, sheet.size()) && in(kind, 1, 5) && in(level, 0, 2) && in(begin, 0, 20));
        refuse(sheet.size() == 24, FULL);
        keep();
        sheet.add(place, made(kind, level, begin));
        return sheet.size();
    }

    int take(int paragraph) {
        want(there(paragraph));
        refuse(sheet.size() == 1, STATE);
        keep();
        sheet.remove(paragraph);
        return sheet.size();
    }

    int move(int paragraph, int place) {
        want(there(paragraph) && there(place));
        refuse(paragraph == place, STATE);
        keep();
        Paragraph p = sheet.remove(paragraph);
        sheet.add(place, p);
        return p.level;
    }

    int change(int paragraph, int kind, int level, int begin) {
        want(there(paragraph) && in(kind, 1, 5) && in(level, 0, 2) && in(begin, 0, 20));
        keep();
        int was = sheet.get(paragraph).kind();
        sheet.set(paragraph, made(kind, level, begin));
        return was;
    }

    int style(int level, int v) {
        refuse(sheet == null, STATE);
        want(in(level, 0, 2) && in(v, 0, 3));
        keep();
        int was = styles[level];
        styles[level] = v;
        return was;
    }

    int paragraph(int paragraph, int what) {
        want(there(paragraph) && in(what, 0, 5));
        Paragraph p = sheet.get(paragraph);
        return switch (what) {
            case 0 -> p.level;
            case 1 -> p.start;
            case 5 -> clipped(sheet, paragraph, 0).length();
            default -> counts(sheet, paragraph)[what - 2];
        };
    }

    private static int sign(String signs, int j) {
        return j < signs.length() ? signs.charAt(j) : NONE;
    }

    int label(int paragraph, int level, int j) {
        want(there(paragraph) && in(level, 0, 2) && j >= 0);
        return sign(clipped(sheet, paragraph, level), j);
    }

    int called(int paragraph, int from, int j) {
        want(there(paragraph) && there(from) && j >= 0);
        int[] here = counts(sheet, paragraph);
        int[] there = counts(sheet, from);
        for (int l = 0;; l++) {
            if (here[l] != there[l] || l == sheet.get(paragraph).level) {
                return sign(clipped(sheet, paragraph, l), j);
            }
        }
    }

    int span(int a, int b, int x, int what) {
        want(there(a) && there(b) && a <= b && in(x, 0, 5) && in(what, 0, 1));
        // Counters far apart from one another and from all starts tell where a value came from.
        int[] c = {1000, 2000, 3000, 4000, 5000, 6000};
        for (int p = a; p <= b; p++) {
            step(c, sheet.get(p));
        }
        int source = c[x] / 1000 - 1;
        return what == 0 ? source : c[x] - (source + 1) * 1000;
    }

    int register(int k) {
        refuse(sheet == null, STATE);
        want(k >= 0);
        List<Integer> all = new ArrayList<>();
        for (int p = 0; p < sheet.size(); p++) {
            if (labelled(sheet.get(p))) {
                all.add(p);
            }
        }
        all.sort(Comparator.comparing(p -> clipped(sheet, p, 0)));
        return k < all.size() ? all.get(k) : NONE;
    }

    private void findPlace(int row, int i, int n) {
        find(rows[row] == null, 1);
        find(i < 0 || (long) i + n > rows[row].length, 2);
        status = 0;
    }

    int bears(int row, int i, int n) {
        refuse(sheet == null, STATE);
        want(in(row, 0, 7) && in(n, 1, 40));
        findPlace(row, i, n);
        StringBuilder wanted = new StringBuilder();
        for (int k = 0; k < n; k++) {
            int code = rows[row][i + k];
            wanted.append(in(code, 0, 127) ? (char) code : '?');
        }
        for (int p = 0; p < sheet.size(); p++) {
            if (clipped(sheet, p, 0).equals(wanted.toString())) {
                return p;
            }
        }
        return NONE;
    }

    int changed(int paragraph) {
        want(there(paragraph));
        refuse(sheet.size() == 1, STATE);
        List<Paragraph> rest = new ArrayList<>(sheet);
        rest.remove(paragraph);
        int many = 0;
        for (int p = 0; p < rest.size(); p++) {
            if (!clipped(rest, p, 0).equals(clipped(sheet, sheet.indexOf(rest.get(p)), 0))) {
                many++;
            }
        }
        return many;
    }

    int nearest(int paragraph, int v) {
        want(there(paragraph) && in(v, 0, 99));
        if (!labelled(sheet.get(paragraph))) {
            return NONE;
        }
        int best = NONE;
        for (int place = 0; place < sheet.size(); place++) {
            List<Paragraph> other = new ArrayList<>(sheet);
            Paragraph one = other.remove(paragraph);
            other.add(place, one);
            boolean nearer = best == NONE || Math.abs(place - paragraph) < Math.abs(best - paragraph);
            if (counts(other, place)[one.level] == v && nearer) {
                best = place;
            }
        }
        return best;
    }

    int sets(int v) {
        refuse(sheet == null, STATE);
        want(in(v, 0, 99));
        int bits = 0;
        for (int p = 0; p < sheet.size(); p++) {
            Paragraph one = sheet.get(p);
            if (labelled(one) && counts(sheet, p)[one.level] == v) {
                bits += 1 << p;
            }
        }
        return bits;
    }

    int deepest(int what) {
        refuse(sheet == null, STATE);
        want(in(what, 0, 1));
        int best = NONE;
        int longest = NONE;
        for (int p = 0; p < sheet.size(); p++) {
            int signs = clipped(sheet, p, 0).length();
            if (signs > 0 && signs > longest) {
                longest = signs;
                best = p;
            }
        }
        return what == 0 ? longest : best;
    }

    int who(int paragraph, int which, int row, int i, int n) {
        want(there(paragraph) && in(which, 0, 2) && in(row, 0, 7) && in(n, 1, 24) && n <= sheet.size());
        findPlace(row, i, n);
        Paragraph was = sheet.get(paragraph);
        int bits = 0;
        for (int v = which == 0 ? 1 : 0; v <= (which == 0 ? 5 : which == 1 ? 2 : 20); v++) {
            List<Paragraph> other = new ArrayList<>(sheet);
            other.set(paragraph, made(which == 0 ? v : was.kind(), which == 1 ? v : was.level, which == 2 ? v : was.start));
            boolean so = true;
            for (int p = 0; p < n; p++) {
                Paragraph one = other.get(p);
                so &= rows[row][i + p] == (labelled(one) ? counts(other, p)[one.level] : 0);
            }
            bits += so ? 1 << v : 0;
        }
        return bits;
    }

    // How likely in tenths to the power of all restarts, by a choice at each restart in turn.
    private BigInteger likely(List<Paragraph> some, int at, int paragraph, int v, int p) {
        for (int k = at; k < some.size(); k++) {
            Paragraph one = some.get(k);
            if (one.kind() == 2) {
                BigInteger kept = likely(some, k + 1, paragraph, v, p);
                List<Paragraph> other = new ArrayList<>(some);
                other.set(k, made(1, one.level, one.start));
                BigInteger gone = likely(other, k + 1, paragraph, v, p);
                return kept.multiply(BigInteger.valueOf(10 - p)).add(gone.multiply(BigInteger.valueOf(p)));
            }
        }
        boolean so = counts(some, paragraph)[some.get(paragraph).level] == v;
        return so ? BigInteger.ONE : BigInteger.ZERO;
    }

    long lost(int paragraph, int v, int p, int what) {
        want(there(paragraph) && in(v, 0, 99) && in(p, 0, 10) && in(what, 0, 1));
        long restarts = sheet.stream().filter(one -> one.kind() == 2).count();
        refuse(restarts > 5, FULL);
        BigInteger above = likely(sheet, 0, paragraph, v, p);
        BigInteger below = BigInteger.TEN.pow((int) restarts);
        BigInteger shared = above.gcd(below);
        return (what == 0 ? above : below).divide(shared).longValueExact();
    }

    int drawn(int n, int seed, int what) {
        refuse(sheet == null, STATE);
        want(in(n, 0, 60) && in(seed, 1, 999999) && in(what, 0, 1));
        List<Paragraph> all = new ArrayList<>(sheet);
        BigInteger x = BigInteger.valueOf(seed);
        for (int k = 0; k < n; k++) {
            x = x.multiply(BigInteger.valueOf(16807)).mod(BigInteger.valueOf(2147483647));
            int d = x.intValueExact();
            int many = all.size();
            if (d % 2 == 0 && many < 24) {
                all.add((d / 8) % many, made(1 + (d / 64) % 5, (d / 512) % 3, (d / 4096) % 21));
            } else if (many > 1) {
                all.remove((d / 8) % many);
            }
        }
        return what == 0 ? all.size() : together(all);
    }

    private int together(List<Paragraph> all) {
        int[] c = counts(all, all.size() - 1);
        return c[0] + c[1] + c[2];
    }

    int image(int k) {
        want(in(k, 0, 1));
        refuse(sheet == null, STATE);
        images[k] = snapshot();
        return 1;
    }

    int restore(int k) {
        want(in(k, 0, 1));
        refuse(images[k] == null, STATE);
        sheet = new ArrayList<>(images[k].sheet());
        styles = images[k].styles().clone();
        undone.clear();
        return 1;
    }

    int kind(int one) {
        want(there(one));
        return sheet.get(one).kind();
    }

    int as(int one, int kind) {
        want(there(one) && in(kind, 0, 5));
        find(!CLASSES[kind].isInstance(sheet.get(one)), 3);
        status = 0;
        return one;
    }

    int ask(int one, int what) {
        want(there(one) && in(what, 0, 1));
        traced = new ArrayList<>();
        return what == 0 ? sheet.get(one).size() : sheet.get(one).mark();
    }

    int trace(int i) {
        return in(i, 0, Math.min(traced.size(), 16) - 1) ? traced.get(i) : NONE;
    }

    int count(int what) {
        want(in(what, 0, 5));
        int many = 0;
        switch (what) {
            case 0:
                for (int[] row : rows) {
                    many += row == null ? 0 : 1;
                }
                return many;
            case 1:
                return sheet == null ? 0 : sheet.size();
            case 2:
                return sheet == null ? 0 : (int) sheet.stream().filter(PlainModel::labelled).count();
            case 3:
                return sheet == null ? 0 : together(sheet);
            case 4:
                return undone.size();
            default:
                return tape.length();
        }
    }

    int status() {
        return status;
    }
}
