import java.util.Arrays;

/** Lists that count: numbered paragraphs on a sheet, and what their labels come to. */
public final class CountedLists {
    public static final int NONE = -1000000, BAD = -1000001, STATE = -1000002, FULL = -1000003;

    private static final int FINDING_BASE = -1000010;
    private static final int NULL = 1, PLACE = 2, KIND = 3, SIZE = 4, STORE = 5;

    private static final int FAULT_BASE = -1000100;
    private static final int MISPLACED = 1, OUT_OF_RANGE = 2, NO_ROOM = 3;

    private static final int ROW_COUNT = 8, MOST_ITEMS = 40, MISSING = -1, BYTES = 0, SHORTS = 1, INTS = 2;
    private static final int MOST_BYTES = 130, MOST_TOLD = 16, MOST_PARAGRAPHS = 24, MOST_ACTS = 24;
    private static final int LEVELS = 3, COUNTERS = 2 * LEVELS, MOST_START = 20, MOST_STYLE = 3;
    private static final int MOST_NUMBER = 99, MOST_EDITS = 60, MOST_SEED = 999999, MOST_RESTARTS = 5, IN_TEN = 10;
    private static final int IMAGES = 2;

    private static final int ANY = 0, ITEM = 1, RESTART = 2, RESUMED = 3, TEXT = 4, HEAD = 5;
    private static final int KINDS = 6, NO_KIND = -1;
    private static final int[] KIND_ABOVE = {NO_KIND, ANY, ITEM, ITEM, ANY, TEXT};
    private static final char[] SORTS = {0, 'i', 'r', 'c', 't', 'h'};

    // The BODY told for each KIND, 0 where none is told and the KIND above answers.
    private static final int[] SIZE_BODIES = {10, 11, 12, 0, 13, 14};
    private static final int[] MARK_BODIES = {20, 21, 24, 22, 23, 0};
    private static final int ASK_SIZE = 0, ASK_MARK = 1;
    private static final int MOST_TRACED = 16, MOST_DEPTH = 20;

    private static final int FIGURES = 0, SMALL_LETTERS = 1, ROMAN = 2, LETTERS = 26;
    private static final int[] ROMAN_VALUES = {50, 40, 10, 9, 5, 4, 1};
    private static final char[] ROMAN_FIRST = {'l', 'x', 'x', 'i', 'v', 'i', 'i'};
    private static final char[] ROMAN_SECOND = {0, 'l', 0, 'x', 0, 'v', 0};

    private static final int PUT_IN = 0, TAKEN_OUT = 1, MOVED = 2, ALTERED = 3, RESTYLED = 4;

    private final Row[] rows = new Row[ROW_COUNT];
    private final Tape tape = new Tape();
    private final Sheet now = new Sheet();
    // What is foretold is tried here, so that no call makes a sheet of its own.
    private final Sheet trial = new Sheet();
    private final Sheet[] images = new Sheet[IMAGES];
    private final Acts acts = new Acts();
    private final Signs[] signs = new Signs[MOST_PARAGRAPHS];
    private final Signs trialSigns = new Signs();
    private final int[] trialCells = new int[COUNTERS];
    private final int[] restarts = new int[MOST_RESTARTS];
    private final int[] traced = new int[MOST_TRACED];
    private int tracedCount = 0;
    private int latestFinding = 0;
    private int latestFault = 0;

    public CountedLists() {
        for (int i = 0; i < ROW_COUNT; i++) {
            rows[i] = new Row();
        }
        for (int i = 0; i < IMAGES; i++) {
            images[i] = new Sheet();
        }
        for (int i = 0; i < MOST_PARAGRAPHS; i++) {
            signs[i] = new Signs();
        }
    }

    // ---- rows

    public int row(int row, int lane, int n) {
        if (!isRow(row) || !isBetween(lane, BYTES, INTS) || n > MOST_ITEMS) {
            return BAD;
        }
        if (n < 0) {
            return found(SIZE);
        }
        rows[row].become(lane, n);
        return foundNothing(n);
    }

    public int set(int row, int i, int v) {
        if (!isRow(row)) {
            return BAD;
        }
        Row line = rows[row];
        int finding = line.findingAt(i, 1);
        if (finding != 0) {
            return found(finding);
        }
        line.items[i] = line.narrowed(v);
        return foundNothing(line.items[i]);
    }

    public int copy(int a, int i, int b, int j, int n) {
        if (!isRow(a) || !isRow(b)) {
            return BAD;
        }
        Row from = rows[a];
        Row to = rows[b];
        if (from.isMissing() || to.isMissing()) {
            return found(NULL);
        }
        if (from.lane != to.lane) {
            return found(STORE);
        }
        if (!from.holds(i, n) || !to.holds(j, n)) {
            return found(PLACE);
        }
        System.arraycopy(from.items, i, to.items, j, n);
        return foundNothing(n);
    }

    public int drop(int row) {
        if (!isRow(row)) {
            return BAD;
        }
        Row line = rows[row];
        if (line.isMissing()) {
            return found(NULL);
        }
        int had = line.size;
        line.become(MISSING, 0);
        return foundNothing(had);
    }

    // ---- what is told

    public int feed(int letter) {
        if (!isBetween(letter, 0, 255)) {
            return BAD;
        }
        if (tape.length >= MOST_BYTES) {
            return FULL;
        }
        tape.bytes[tape.length] = letter;
        tape.length++;
        return tape.length;
    }

    public int sheet() {
        int wrong = tape.readInto(trial);
        tape.length = 0;
        if (wrong != 0) {
            latestFault = wrong;
            return FAULT_BASE - tape.place;
        }
        now.become(trial);
        acts.forgetAll();
        return now.size;
    }

    public int fault() {
        return latestFault;
    }

    public int undo() {
        if (acts.size == 0) {
            return STATE;
        }
        acts.undoLatest(now);
        return acts.size;
    }

    // ---- what is done

    public int put(int place, int kind, int level, int begin) {
        if (now.isNone()) {
            return STATE;
        }
        if (!isBetween(place, 0, now.size) || !isTold(kind, level, begin)) {
            return BAD;
        }
        if (now.size >= MOST_PARAGRAPHS) {
            return FULL;
        }
        now.insert(place, kind, level, begin);
        acts.keep(PUT_IN, place, place, kind, level, begin);
        return now.size;
    }

    public int take(int paragraph) {
        if (!now.has(paragraph)) {
            return BAD;
        }
        if (now.size == 1) {
            return STATE;
        }
        keepAct(TAKEN_OUT, paragraph, paragraph);
        now.remove(paragraph);
        return now.size;
    }

    public int move(int paragraph, int place) {
        if (!now.has(paragraph) || !now.has(place)) {
            return BAD;
        }
        if (paragraph == place) {
            return STATE;
        }
        keepAct(MOVED, paragraph, place);
        now.shift(paragraph, place);
        return now.levels[place];
    }

    public int change(int paragraph, int kind, int level, int begin) {
        if (!now.has(paragraph) || !isTold(kind, level, begin)) {
            return BAD;
        }
        int was = now.kinds[paragraph];
        keepAct(ALTERED, paragraph, paragraph);
        now.alter(paragraph, kind, level, begin);
        return was;
    }

    public int style(int level, int v) {
        if (now.isNone()) {
            return STATE;
        }
        if (!isLevel(level) || !isBetween(v, 0, MOST_STYLE)) {
            return BAD;
        }
        int was = now.styles[level];
        acts.keep(RESTYLED, level, was, 0, 0, 0);
        now.styles[level] = v;
        return was;
    }

    public int paragraph(int paragraph, int what) {
        if (!now.has(paragraph) || !isBetween(what, 0, 5)) {
            return BAD;
        }
        if (what == 0) {
            return now.levels[paragraph];
        }
        if (what == 1) {
            return now.starts[paragraph];
        }
        if (what < 5) {
            return now.behind(paragraph)[what - 2];
        }
        now.writeLabel(paragraph, 0, trialSigns);
        return trialSigns.length;
    }

    public int label(int paragraph, int level, int j) {
        if (!now.has(paragraph) || !isLevel(level) || j < 0) {
            return BAD;
        }
        return signOfLabel(paragraph, level, j);
    }

    public int called(int paragraph, int from, int j) {
        if (!now.has(paragraph) || !now.has(from) || j < 0) {
            return BAD;
        }
        int[] here = now.behind(paragraph);
        int[] there = now.behind(from);
        int own = now.levels[paragraph];
        int level = 0;
        while (level < own && here[level] == there[level]) {
            level++;
        }
        return signOfLabel(paragraph, level, j);
    }

    // ---- what it comes to

    public int span(int a, int b, int x, int what) {
        if (!now.has(a) || !now.has(b) || a > b || !isBetween(x, 0, COUNTERS - 1) || !isBetween(what, 0, 1)) {
            return BAD;
        }
        Counting.toThemselves(trialCells);
        for (int p = a; p <= b; p++) {
            now.countOver(p, trialCells);
        }
        return what == 0 ? Counting.sourceOf(trialCells[x]) : Counting.amountOf(trialCells[x]);
    }

    public int register(int k) {
        if (now.isNone()) {
            return STATE;
        }
        if (k < 0) {
            return BAD;
        }
        for (int p = 0; p < now.size; p++) {
            now.writeLabel(p, 0, signs[p]);
        }
        for (int p = 0; p < now.size; p++) {
            if (now.isLabelled(p) && registeredAhead(p) == k) {
                return p;
            }
        }
        return NONE;
    }

    public int bears(int row, int i, int n) {
        if (now.isNone()) {
            return STATE;
        }
        if (!isRow(row) || !isBetween(n, 1, MOST_ITEMS)) {
            return BAD;
        }
        Row line = rows[row];
        int finding = line.findingAt(i, n);
        if (finding != 0) {
            return found(finding);
        }
        for (int p = 0; p < now.size; p++) {
            now.writeLabel(p, 0, trialSigns);
            if (trialSigns.areItems(line, i, n)) {
                return foundNothing(p);
            }
        }
        return foundNothing(NONE);
    }

    public int changed(int paragraph) {
        if (!now.has(paragraph)) {
            return BAD;
        }
        if (now.size == 1) {
            return STATE;
        }
        trial.become(now);
        trial.remove(paragraph);
        int others = 0;
        for (int p = 0; p < trial.size; p++) {
            now.writeLabel(p < paragraph ? p : p + 1, 0, signs[p]);
            trial.writeLabel(p, 0, trialSigns);
            if (signs[p].order(trialSigns) != 0) {
                others++;
            }
        }
        return others;
    }

    public int nearest(int paragraph, int v) {
        if (!now.has(paragraph) || !isBetween(v, 0, MOST_NUMBER)) {
            return BAD;
        }
        if (!now.isLabelled(paragraph)) {
            return NONE;
        }
        trial.become(now);
        trial.remove(paragraph);
        for (int far = 0; far < now.size; far++) {
            if (countAt(paragraph, paragraph - far) == v) {
                return paragraph - far;
            }
            if (countAt(paragraph, paragraph + far) == v) {
                return paragraph + far;
            }
        }
        return NONE;
    }

    public int sets(int v) {
        if (now.isNone()) {
            return STATE;
        }
        if (!isBetween(v, 0, MOST_NUMBER)) {
            return BAD;
        }
        int bits = 0;
        for (int p = 0; p < now.size; p++) {
            if (now.isLabelled(p) && now.ownCount(p) == v) {
                bits |= 1 << p;
            }
        }
        return bits;
    }

    public int deepest(int what) {
        if (now.isNone()) {
            return STATE;
        }
        if (!isBetween(what, 0, 1)) {
            return BAD;
        }
        int longest = 0;
        int which = NONE;
        for (int p = 0; p < now.size; p++) {
            now.writeLabel(p, 0, trialSigns);
            if (trialSigns.length > longest) {
                longest = trialSigns.length;
                which = p;
            }
        }
        return what == 1 || which == NONE ? which : longest;
    }

    public int who(int paragraph, int which, int row, int i, int n) {
        if (!now.has(paragraph) || !isBetween(which, 0, 2) || !isRow(row) || !isBetween(n, 1, now.size)) {
            return BAD;
        }
        Row line = rows[row];
        int finding = line.findingAt(i, n);
        if (finding != 0) {
            return found(finding);
        }
        int kind = now.kinds[paragraph];
        int level = now.levels[paragraph];
        int start = now.starts[paragraph];
        int least = which == 0 ? ITEM : 0;
        int most = which == 0 ? HEAD : which == 1 ? LEVELS - 1 : MOST_START;
        int bits = 0;
        trial.become(now);
        for (int v = least; v <= most; v++) {
            trial.alter(paragraph, which == 0 ? v : kind, which == 1 ? v : level, which == 2 ? v : start);
            if (trial.isToldBy(line, i, n)) {
                bits |= 1 << v;
            }
        }
        return foundNothing(bits);
    }

    public long lost(int paragraph, int v, int p, int what) {
        if (!now.has(paragraph) || !isBetween(v, 0, MOST_NUMBER) || !isBetween(p, 0, IN_TEN) || !isBetween(what, 0, 1)) {
            return BAD;
        }
        int many = now.howManyOf(RESTART);
        if (many > MOST_RESTARTS) {
            return FULL;
        }
        noteRestarts();
        trial.become(now);
        long above = 0;
        for (int cases = 0; cases < 1 << many; cases++) {
            loseRestarts(cases, many);
            if (trial.ownCount(paragraph) == v) {
                int gone = Integer.bitCount(cases);
                above += power(p, gone) * power(IN_TEN - p, many - gone);
            }
        }
        long below = power(IN_TEN, many);
        long shared = commonDivisor(above, below);
        return what == 0 ? above / shared : below / shared;
    }

    public int drawn(int n, int seed, int what) {
        if (now.isNone()) {
            return STATE;
        }
        if (!isBetween(n, 0, MOST_EDITS) || !isBetween(seed, 1, MOST_SEED) || !isBetween(what, 0, 1)) {
            return BAD;
        }
        trial.become(now);
        long draw = seed;
        for (int edit = 0; edit < n; edit++) {
            draw = draw * 16807 % 2147483647;
            trial.editBy(draw);
        }
        return what == 0 ? trial.size : trial.lastCounts();
    }

    public int image(int k) {
        if (!isBetween(k, 0, IMAGES - 1)) {
            return BAD;
        }
        if (now.isNone()) {
            return STATE;
        }
        images[k].become(now);
        return 1;
    }

    public int restore(int k) {
        if (!isBetween(k, 0, IMAGES - 1)) {
            return BAD;
        }
        if (images[k].isNone()) {
            return STATE;
        }
        now.become(images[k]);
        acts.forgetAll();
        return 1;
    }

    // ---- asked

    public int kind(int one) {
        return now.has(one) ? now.kinds[one] : BAD;
    }

    public int as(int one, int kind) {
        if (!now.has(one) || !isBetween(kind, 0, KINDS - 1)) {
            return BAD;
        }
        int above = now.kinds[one];
        for (int step = 0; step < KINDS && above != kind && above != NO_KIND; step++) {
            above = KIND_ABOVE[above];
        }
        return above == kind ? foundNothing(one) : found(KIND);
    }

    public int ask(int one, int what) {
        if (!now.has(one) || !isBetween(what, ASK_SIZE, ASK_MARK)) {
            return BAD;
        }
        tracedCount = 0;
        return answerTo(what, one, 0);
    }

    public int trace(int i) {
        return i >= 0 && i < tracedCount ? traced[i] : NONE;
    }

    public int count(int what) {
        switch (what) {
            case 0:
                return howManyRows();
            case 1:
                return now.size;
            case 2:
                return now.howManyOf(ITEM) + now.howManyOf(RESTART) + now.howManyOf(RESUMED);
            case 3:
                return now.lastCounts();
            case 4:
                return acts.size;
            case 5:
                return tape.length;
            default:
                return BAD;
        }
    }

    public int status() {
        return latestFinding;
    }

    // ---- within

    private static boolean isBetween(int v, int least, int most) {
        return v >= least && v <= most;
    }

    private static boolean isRow(int row) {
        return isBetween(row, 0, ROW_COUNT - 1);
    }

    private static boolean isLevel(int level) {
        return isBetween(level, 0, LEVELS - 1);
    }

    private static boolean isTold(int kind, int level, int begin) {
        return isBetween(kind, ITEM, HEAD) && isLevel(level) && isBetween(begin, 0, MOST_START);
    }

    private int found(int finding) {
        latestFinding = finding;
        return FINDING_BASE - finding;
    }

    private int foundNothing(int answer) {
        latestFinding = 0;
        return answer;
    }

    private int howManyRows() {
        int many = 0;
        for (int i = 0; i < ROW_COUNT; i++) {
            if (!rows[i].isMissing()) {
                many++;
            }
        }
        return many;
    }

    private void keepAct(int act, int paragraph, int place) {
        acts.keep(act, paragraph, place, now.kinds[paragraph], now.levels[paragraph], now.starts[paragraph]);
    }

    private int signOfLabel(int paragraph, int level, int j) {
        now.writeLabel(paragraph, level, trialSigns);
        return j < trialSigns.length ? trialSigns.codes[j] : NONE;
    }

    private int registeredAhead(int paragraph) {
        int ahead = 0;
        for (int p = 0; p < now.size; p++) {
            int order = signs[p].order(signs[paragraph]);
            if (now.isLabelled(p) && (order < 0 || order == 0 && p < paragraph)) {
                ahead++;
            }
        }
        return ahead;
    }

    // The trial holds all but the paragraph; NONE where there is no such place.
    private int countAt(int paragraph, int place) {
        if (!isBetween(place, 0, trial.size)) {
            return NONE;
        }
        System.arraycopy(trial.ahead(place), 0, trialCells, 0, COUNTERS);
        now.countOver(paragraph, trialCells);
        return trialCells[now.levels[paragraph]];
    }

    private void noteRestarts() {
        int many = 0;
        for (int p = 0; p < now.size; p++) {
            if (now.kinds[p] == RESTART && many < MOST_RESTARTS) {
                restarts[many] = p;
                many++;
            }
        }
    }

    private void loseRestarts(int cases, int many) {
        for (int r = 0; r < many; r++) {
            int p = restarts[r];
            trial.alter(p, (cases >> r & 1) == 1 ? ITEM : RESTART, now.levels[p], now.starts[p]);
        }
    }

    private static long power(long base, int times) {
        long product = 1;
        for (int i = 0; i < times; i++) {
            product *= base;
        }
        return product;
    }

    private static long commonDivisor(long a, long b) {
        long greater = b;
        long lesser = a;
        // Far more steps than two numbers up to 100000 can take.
        for (int step = 0; step < 100 && lesser > 0; step++) {
            long rest = greater % lesser;
            greater = lesser;
            lesser = rest;
        }
        return Math.max(greater, 1);
    }

    private int answerTo(int what, int one, int depth) {
        int[] bodies = what == ASK_SIZE ? SIZE_BODIES : MARK_BODIES;
        int kind = now.kinds[one];
        for (int step = 0; step < KINDS && kind != ANY && bodies[kind] == 0; step++) {
            kind = KIND_ABOVE[kind];
        }
        return answerOf(bodies[kind], one, depth + 1);
    }

    private int answerOf(int body, int one, int depth) {
        if (depth > MOST_DEPTH) {
            return 0;
        }
        leaveTrace(body);
        int next = depth + 1;
        switch (body) {
            case 10:
                return now.starts[one];
            case 11:
                return answerOf(10, one, next) + answerTo(ASK_MARK, one, next);
            case 12:
                return -answerOf(11, one, next);
            case 13:
                return answerOf(10, one, next) - 100;
            case 14:
                return 2 * answerOf(13, one, next);
            case 20:
                return one;
            case 21:
                return answerOf(20, one, next) + now.ownCount(one);
            case 22:
                return answerOf(21, one, next) - 1000;
            case 23:
                return answerOf(20, one, next) - answerTo(ASK_SIZE, one, next);
            case 24:
                return 2 * answerOf(21, one, next);
            default:
                return 0;
        }
    }

    private void leaveTrace(int body) {
        if (tracedCount < MOST_TRACED) {
            traced[tracedCount] = body;
            tracedCount++;
        }
    }

    /** A ROW: room for the most items is made once, so that no call makes any. */
    private static final class Row {
        final int[] items = new int[MOST_ITEMS];
        int lane = MISSING;
        int size = 0;

        boolean isMissing() {
            return lane == MISSING;
        }

        void become(int newLane, int newSize) {
            lane = newLane;
            size = newSize;
            Arrays.fill(items, 0);
        }

        boolean holds(int i, int n) {
            // Not i + n, which could wrap around.
            return i >= 0 && n >= 0 && i <= size - n;
        }

        /** What is found of n items from i on; 0: nothing. */
        int findingAt(int i, int n) {
            if (isMissing()) {
                return NULL;
            }
            return holds(i, n) ? 0 : PLACE;
        }

        int narrowed(int v) {
            switch (lane) {
                case BYTES:
                    return (byte) v;
                case SHORTS:
                    return (short) v;
                default:
                    return v;
            }
        }
    }

    /**
     * What paragraphs do to counters. A cell tells a SOURCE and how much more, in one number, so that
     * counters as they are (no SOURCE) and counters of whatever value go by the same rules.
     */
    private static final class Counting {
        // Far above all that 24 paragraphs can count.
        private static final int SOURCE_STEP = 1000;

        private Counting() {
        }

        static void toThemselves(int[] cells) {
            for (int x = 0; x < COUNTERS; x++) {
                cells[x] = (x + 1) * SOURCE_STEP;
            }
        }

        static int sourceOf(int cell) {
            return cell / SOURCE_STEP - 1;
        }

        static int amountOf(int cell) {
            return cell % SOURCE_STEP;
        }

        static void over(int[] cells, int kind, int level, int start) {
            switch (kind) {
                case ITEM:
                    standAt(cells, level, cells[level] + 1);
                    break;
                case RESTART:
                    standAt(cells, level, start);
                    break;
                case RESUMED:
                    System.arraycopy(cells, LEVELS, cells, 0, LEVELS);
                    standAt(cells, level, cells[level] + 1);
                    break;
                case HEAD:
                    System.arraycopy(cells, 0, cells, LEVELS, LEVELS);
                    standAt(cells, 0, 0);
                    break;
                default:
                    break;
            }
        }

        private static void standAt(int[] cells, int level, int cell) {
            cells[level] = cell;
            for (int deeper = level + 1; deeper < LEVELS; deeper++) {
                cells[deeper] = 0;
            }
        }
    }

    /** A SHEET; one without paragraphs is none. */
    private static final class Sheet {
        final int[] styles = new int[LEVELS];
        final int[] kinds = new int[MOST_PARAGRAPHS];
        final int[] levels = new int[MOST_PARAGRAPHS];
        final int[] starts = new int[MOST_PARAGRAPHS];
        int size = 0;
        // Line p: the counters ahead of paragraph p. Lines 0 to counted hold; those behind an edit are
        // counted when they are asked for, and those ahead of it never again.
        private final int[][] cells = new int[MOST_PARAGRAPHS + 1][COUNTERS];
        private int counted = 0;

        boolean isNone() {
            return size == 0;
        }

        boolean has(int p) {
            return p >= 0 && p < size;
        }

        boolean isLabelled(int p) {
            return kinds[p] != TEXT && kinds[p] != HEAD;
        }

        int howManyOf(int kind) {
            int many = 0;
            for (int p = 0; p < size; p++) {
                if (kinds[p] == kind) {
                    many++;
                }
            }
            return many;
        }

        void become(Sheet other) {
            System.arraycopy(other.styles, 0, styles, 0, LEVELS);
            System.arraycopy(other.kinds, 0, kinds, 0, other.size);
            System.arraycopy(other.levels, 0, levels, 0, other.size);
            System.arraycopy(other.starts, 0, starts, 0, other.size);
            size = other.size;
            counted = 0;
        }

        void clear() {
            size = 0;
            counted = 0;
        }

        void insert(int place, int kind, int level, int start) {
            if (size >= MOST_PARAGRAPHS || place < 0 || place > size) {
                return;
            }
            slide(place, place + 1, size - place);
            size++;
            alter(place, kind, level, start);
        }

        void remove(int place) {
            if (!has(place)) {
                return;
            }
            slide(place + 1, place, size - place - 1);
            size--;
            counted = Math.min(counted, place);
        }

        void shift(int from, int to) {
            if (!has(from) || !has(to)) {
                return;
            }
            int kind = kinds[from];
            int level = levels[from];
            int start = starts[from];
            remove(from);
            insert(to, kind, level, start);
        }

        void alter(int place, int kind, int level, int start) {
            if (!has(place)) {
                return;
            }
            kinds[place] = kind;
            levels[place] = level;
            starts[place] = start;
            counted = Math.min(counted, place);
        }

        void editBy(long draw) {
            if (size < 1) {
                return;
            }
            int place = (int) (draw / 8 % size);
            if (draw % 2 == 0 && size < MOST_PARAGRAPHS) {
                int kind = 1 + (int) (draw / 64 % 5);
                int level = (int) (draw / 512 % LEVELS);
                int start = (int) (draw / 4096 % (MOST_START + 1));
                insert(place, kind, level, start);
            } else if (size > 1) {
                remove(place);
            }
        }

        void countOver(int p, int[] into) {
            Counting.over(into, kinds[p], levels[p], starts[p]);
        }

        int[] ahead(int p) {
            int upTo = Math.max(0, Math.min(p, size));
            while (counted < upTo) {
                int[] line = cells[counted + 1];
                System.arraycopy(cells[counted], 0, line, 0, COUNTERS);
                Counting.over(line, kinds[counted], levels[counted], starts[counted]);
                counted++;
            }
            return cells[upTo];
        }

        int[] behind(int p) {
            return ahead(p + 1);
        }

        int ownCount(int p) {
            return ahead(p + 1)[levels[p]];
        }

        int lastCounts() {
            int[] last = ahead(size);
            int together = 0;
            for (int level = 0; level < LEVELS; level++) {
                together += last[level];
            }
            return together;
        }

        boolean isToldBy(Row line, int from, int n) {
            for (int p = 0; p < n; p++) {
                int due = isLabelled(p) ? ownCount(p) : 0;
                if (line.items[from + p] != due) {
                    return false;
                }
            }
            return true;
        }

        void writeLabel(int p, int from, Signs signs) {
            signs.length = 0;
            if (!isLabelled(p)) {
                return;
            }
            int own = levels[p];
            int[] counts = behind(p);
            for (int level = Math.min(from, own); level <= own; level++) {
                if (signs.length > 0) {
                    signs.add('.');
                }
                signs.addNumerals(counts[level], styles[level]);
            }
        }

        private void slide(int from, int to, int n) {
            System.arraycopy(kinds, from, kinds, to, n);
            System.arraycopy(levels, from, levels, to, n);
            System.arraycopy(starts, from, starts, to, n);
        }
    }

    /** Signs of a label. */
    private static final class Signs {
        // Three numerals of at most seven signs, xxxviii the longest that can be counted, and two points.
        final char[] codes = new char[3 * 7 + 2];
        int length = 0;

        void add(int code) {
            if (length < codes.length) {
                codes[length] = (char) code;
                length++;
            }
        }

        void addNumerals(int v, int style) {
            if (v == 0 || style == FIGURES) {
                addFigures(v);
            } else if (style == ROMAN) {
                addRoman(v);
            } else {
                addLetters(v, style == SMALL_LETTERS ? 'a' : 'A');
            }
        }

        private void addFigures(int v) {
            for (int unit = 1000; unit > 0; unit /= 10) {
                if (v >= unit || unit == 1) {
                    add('0' + v / unit % 10);
                }
            }
        }

        private void addRoman(int v) {
            int rest = v;
            for (int k = 0; k < ROMAN_VALUES.length; k++) {
                for (; rest >= ROMAN_VALUES[k]; rest -= ROMAN_VALUES[k]) {
                    add(ROMAN_FIRST[k]);
                    if (ROMAN_SECOND[k] != 0) {
                        add(ROMAN_SECOND[k]);
                    }
                }
            }
        }

        // No letter stands for 0, so a unit counts only where a whole round of lesser ones is behind it.
        private void addLetters(int v, int first) {
            if (v > LETTERS) {
                add(first + (v - 1) / LETTERS - 1);
            }
            add(first + (v - 1) % LETTERS);
        }

        boolean areItems(Row line, int from, int n) {
            if (n != length) {
                return false;
            }
            for (int j = 0; j < n; j++) {
                if (line.items[from + j] != codes[j]) {
                    return false;
                }
            }
            return true;
        }

        // Below 0: ahead of the other; 0: the same signs.
        int order(Signs other) {
            int both = Math.min(length, other.length);
            for (int j = 0; j < both; j++) {
                if (codes[j] != other.codes[j]) {
                    return codes[j] - other.codes[j];
                }
            }
            return length - other.length;
        }
    }

    /** The tape, and the reading of a sheet from it. */
    private static final class Tape {
        private static final int END = 0, NUMBER = 1, NO_TOKEN = 2;

        final int[] bytes = new int[MOST_BYTES];
        int length = 0;
        // The token that is looked at: where it begins, where the next one does, what it is (a letter or
        // a sign is its code), its value.
        int place = 0;
        private int next = 0;
        private int token = END;
        private int value = 0;
        private int wrong = 0;

        /** The number of the fault, which is at place; 0: there is none. */
        int readInto(Sheet told) {
            told.clear();
            wrong = 0;
            next = 0;
            stepOn();
            readLaw(told);
            for (int p = 0; p <= MOST_TOLD && wrong == 0 && (p == 0 || token != END); p++) {
                readParagraph(told);
            }
            return wrong;
        }

        private void readLaw(Sheet told) {
            pass('n');
            for (int level = 0; level < LEVELS; level++) {
                told.styles[level] = passNumber(MOST_STYLE);
                pass(level < LEVELS - 1 ? ',' : ';');
            }
        }

        private void readParagraph(Sheet told) {
            int kind = passSort(told.size);
            int level = passNumber(LEVELS - 1);
            pass(',');
            int start = passNumber(MOST_START);
            pass(';');
            if (wrong == 0) {
                told.insert(told.size, kind, level, start);
            }
        }

        // Behind a fault nothing is passed any more, so place stays where the first fault is.
        private void pass(int code) {
            if (wrong == 0 && token != code) {
                wrong = MISPLACED;
            }
            stepOn();
        }

        private int passNumber(int most) {
            if (wrong == 0 && token != NUMBER) {
                wrong = MISPLACED;
            }
            if (wrong == 0 && value > most) {
                wrong = OUT_OF_RANGE;
            }
            int passed = value;
            stepOn();
            return passed;
        }

        private int passSort(int already) {
            int kind = ITEM;
            while (kind < HEAD && SORTS[kind] != token) {
                kind++;
            }
            if (wrong == 0 && SORTS[kind] != token) {
                wrong = MISPLACED;
            }
            if (wrong == 0 && already >= MOST_TOLD) {
                wrong = NO_ROOM;
            }
            stepOn();
            return kind;
        }

        private void stepOn() {
            if (wrong != 0) {
                return;
            }
            place = next;
            value = 0;
            if (place >= length) {
                token = END;
                return;
            }
            next = place + 1;
            int code = bytes[place];
            if (isFigure(code)) {
                stepOverFigures();
            } else if (code >= 'a' && code <= 'z' || code == ',' || code == ';') {
                token = code;
            } else {
                token = NO_TOKEN;
            }
        }

        private void stepOverFigures() {
            next = place;
            while (next < length && isFigure(bytes[next])) {
                // Only runs of two are read, so a value that wraps around is never used.
                value = value * 10 + bytes[next] - '0';
                next++;
            }
            token = next - place <= 2 ? NUMBER : NO_TOKEN;
        }

        private static boolean isFigure(int code) {
            return code >= '0' && code <= '9';
        }
    }

    /** The latest acts, each with what is needed to undo it; of too many the oldest is forgotten. */
    private static final class Acts {
        private final int[][] kept = new int[MOST_ACTS][6];
        private int oldest = 0;
        int size = 0;

        void forgetAll() {
            oldest = 0;
            size = 0;
        }

        void keep(int act, int place, int other, int kind, int level, int start) {
            if (size == MOST_ACTS) {
                oldest = (oldest + 1) % MOST_ACTS;
                size--;
            }
            int[] line = kept[(oldest + size) % MOST_ACTS];
            line[0] = act;
            line[1] = place;
            line[2] = other;
            line[3] = kind;
            line[4] = level;
            line[5] = start;
            size++;
        }

        void undoLatest(Sheet on) {
            if (size == 0) {
                return;
            }
            size--;
            int[] line = kept[(oldest + size) % MOST_ACTS];
            int place = line[1];
            switch (line[0]) {
                case PUT_IN:
                    on.remove(place);
                    break;
                case TAKEN_OUT:
                    on.insert(place, line[3], line[4], line[5]);
                    break;
                case MOVED:
                    on.shift(line[2], place);
                    break;
                case ALTERED:
                    on.alter(place, line[3], line[4], line[5]);
                    break;
                default:
                    on.styles[place] = line[2];
                    break;
            }
        }
    }
}
