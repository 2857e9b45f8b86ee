import java.util.ArrayList;
import java.util.List;
import java.util.Random;

/** Drawn runs of calls, each answer held against the plain model of the document. */
public final class ModelTest {
    private static final int RUNS = 6000, CALLS = 512;
    private static final String[] NAMES = {
        "row", "set", "copy", "drop", "feed", "sheet", "fault", "undo", "put", "take", "move", "change", "style",
        "paragraph", "label", "called", "span", "register", "bears", "changed", "nearest", "sets", "deepest", "who",
        "lost", "drawn", "image", "restore", "kind", "as", "ask", "trace", "count", "status"};
    private static final int FEED = 4, SHEET = 5;

    private final Random random;
    private final CountedLists x = new CountedLists();
    private final PlainModel model = new PlainModel();
    private final List<String> told = new ArrayList<>();
    private int calls = 0;

    private ModelTest(long seed) {
        random = new Random(seed);
    }

    /** Mostly a number that is as told, sometimes one beside the edge or far off. */
    private int number(int least, int most) {
        int way = random.nextInt(60);
        if (way == 0) {
            return least - 1;
        }
        if (way == 1) {
            return most + 1;
        }
        if (way == 2) {
            return new int[] {Integer.MIN_VALUE, Integer.MAX_VALUE, -1, 1 << 16, 300}[random.nextInt(5)];
        }
        return most < least ? least : least + random.nextInt(most - least + 1);
    }

    private int one() {
        return number(0, Math.max(0, x.count(1) - 1));
    }

    private long answer(int call, int[] a) {
        switch (call) {
            case 0: return x.row(a[0], a[1], a[2]);
            case 1: return x.set(a[0], a[1], a[2]);
            case 2: return x.copy(a[0], a[1], a[2], a[3], a[4]);
            case 3: return x.drop(a[0]);
            case 4: return x.feed(a[0]);
            case 5: return x.sheet();
            case 6: return x.fault();
            case 7: return x.undo();
            case 8: return x.put(a[0], a[1], a[2], a[3]);
            case 9: return x.take(a[0]);
            case 10: return x.move(a[0], a[1]);
            case 11: return x.change(a[0], a[1], a[2], a[3]);
            case 12: return x.style(a[0], a[1]);
            case 13: return x.paragraph(a[0], a[1]);
            case 14: return x.label(a[0], a[1], a[2]);
            case 15: return x.called(a[0], a[1], a[2]);
            case 16: return x.span(a[0], a[1], a[2], a[3]);
            case 17: return x.register(a[0]);
            case 18: return x.bears(a[0], a[1], a[2]);
            case 19: return x.changed(a[0]);
            case 20: return x.nearest(a[0], a[1]);
            case 21: return x.sets(a[0]);
            case 22: return x.deepest(a[0]);
            case 23: return x.who(a[0], a[1], a[2], a[3], a[4]);
            case 24: return x.lost(a[0], a[1], a[2], a[3]);
            case 25: return x.drawn(a[0], a[1], a[2]);
            case 26: return x.image(a[0]);
            case 27: return x.restore(a[0]);
            case 28: return x.kind(a[0]);
            case 29: return x.as(a[0], a[1]);
            case 30: return x.ask(a[0], a[1]);
            case 31: return x.trace(a[0]);
            case 32: return x.count(a[0]);
            default: return x.status();
        }
    }

    private long modelAnswer(int call, int[] a) {
        switch (call) {
            case 0: return model.row(a[0], a[1], a[2]);
            case 1: return model.set(a[0], a[1], a[2]);
            case 2: return model.copy(a[0], a[1], a[2], a[3], a[4]);
            case 3: return model.drop(a[0]);
            case 4: return model.feed(a[0]);
            case 5: return model.sheet();
            case 6: return model.fault();
            case 7: return model.undo();
            case 8: return model.put(a[0], a[1], a[2], a[3]);
            case 9: return model.take(a[0]);
            case 10: return model.move(a[0], a[1]);
            case 11: return model.change(a[0], a[1], a[2], a[3]);
            case 12: return model.style(a[0], a[1]);
            case 13: return model.paragraph(a[0], a[1]);
            case 14: return model.label(a[0], a[1], a[2]);
            case 15: return model.called(a[0], a[1], a[2]);
            case 16: return model.span(a[0], a[1], a[2], a[3]);
            case 17: return model.register(a[0]);
            case 18: return model.bears(a[0], a[1], a[2]);
            case 19: return model.changed(a[0]);
            case 20: return model.nearest(a[0], a[1]);
            case 21: return model.sets(a[0]);
            case 22: return model.deepest(a[0]);
            case 23: return model.who(a[0], a[1], a[2], a[3], a[4]);
            case 24: return model.lost(a[0], a[1], a[2], a[3]);
            case 25: return model.drawn(a[0], a[1], a[2]);
            case 26: return model.image(a[0]);
            case 27: return model.restore(a[0]);
            case 28: return model.kind(a[0]);
            case 29: return model.as(a[0], a[1]);
            case 30: return model.ask(a[0], a[1]);
            case 31: return model.trace(a[0]);
            case 32: return model.count(a[0]);
            default: return model.status();
        }
    }

    private boolean same(int call, int... args) {
        long due;
        try {
            due = modelAnswer(call, args);
        } catch (PlainModel.Refused refused) {
            due = refused.answer;
        }
        long got = answer(call, args);
        StringBuilder line = new StringBuilder(NAMES[call]).append('(');
        for (int i = 0; i < args.length; i++) {
            line.append(i == 0 ? "" : ", ").append(args[i]);
        }
        told.add(line.append(") ").append(got).toString());
        calls++;
        if (got != due) {
            System.out.println("due is " + due + " at the end of:");
            told.forEach(row -> System.out.println("  " + row));
        }
        return got == due;
    }

    private String sheetText() {
        StringBuilder text = new StringBuilder();
        text.append('n').append(random.nextInt(4)).append(',').append(random.nextInt(4)).append(',').append(random.nextInt(4));
        text.append(';');
        int many = random.nextInt(8) == 0 ? 15 + random.nextInt(3) : 1 + random.nextInt(15);
        String sorts = random.nextInt(4) == 0 ? "iiiiiirc" : "irctht";
        for (int p = 0; p < many; p++) {
            text.append(sorts.charAt(random.nextInt(sorts.length()))).append(random.nextInt(3)).append(',');
            text.append(random.nextInt(21)).append(';');
        }
        if (random.nextInt(3) == 0) {
            int at = random.nextInt(text.length());
            String odd = "n;,ircth0123459a z\u00e9I.";
            switch (random.nextInt(4)) {
                case 0:
                    text.deleteCharAt(at);
                    break;
                case 1:
                    text.setCharAt(at, odd.charAt(random.nextInt(odd.length())));
                    break;
                case 2:
                    text.insert(at, odd.charAt(random.nextInt(odd.length())));
                    break;
                default:
                    text.setLength(at);
                    break;
            }
        }
        return text.toString();
    }

    private boolean tell() {
        String text = sheetText();
        for (int i = 0; i < text.length() && calls < CALLS; i++) {
            if (!same(FEED, text.charAt(i))) {
                return false;
            }
        }
        return same(SHEET) && same(6);
    }

    /** A row that tells a label, or the counts of the first paragraphs, so that bears and who find some. */
    private boolean fill() {
        int row = random.nextInt(8);
        if (x.count(1) == 0) {
            return same(0, row, random.nextInt(3), random.nextInt(41));
        }
        boolean counts = random.nextBoolean();
        int[] items = new int[40];
        int many = 0;
        if (counts) {
            many = 1 + random.nextInt(x.count(1));
            for (int p = 0; p < many; p++) {
                items[p] = x.kind(p) < 4 ? x.paragraph(p, 2 + x.paragraph(p, 0)) : 0;
            }
        } else {
            int p = random.nextInt(x.count(1));
            for (; x.label(p, 0, many) >= 0; many++) {
                items[many] = x.label(p, 0, many);
            }
        }
        if (random.nextInt(6) == 0) {
            items[random.nextInt(many + 1)]++;
        }
        boolean fine = same(0, row, random.nextInt(3), many);
        for (int i = 0; i < many; i++) {
            fine = fine && same(1, row, i, items[i]);
        }
        for (int k = 0; k < 3; k++) {
            fine = fine && (counts ? same(23, one(), k, row, 0, many) : same(18, row, 0, many));
        }
        return fine;
    }

    private boolean any() {
        int call = random.nextInt(NAMES.length);
        int last = Math.max(0, x.count(1) - 1);
        switch (call) {
            case 0: return same(call, number(0, 7), number(0, 2), number(-1, 40));
            case 1: return same(call, number(0, 7), number(0, 12), random.nextInt());
            case 2: return same(call, number(0, 7), number(0, 6), number(0, 7), number(0, 6), number(0, 8));
            case 3: return random.nextInt(3) != 0 || same(call, number(0, 7));
            case 4: return random.nextInt(8) != 0 || same(call, number(0, 255));
            case 5: return random.nextInt(8) != 0 || same(call);
            case 8: return same(call, number(0, last + 1), number(1, 5), number(0, 2), number(0, 20));
            case 9: return same(call, one());
            case 10: return same(call, one(), one());
            case 11: return same(call, one(), number(1, 5), number(0, 2), number(0, 20));
            case 12: return same(call, number(0, 2), number(0, 3));
            case 13: return same(call, one(), number(0, 5));
            case 14: return same(call, one(), number(0, 2), number(0, 9));
            case 15: return same(call, one(), one(), number(0, 9));
            case 16: return same(call, one(), one(), number(0, 5), number(0, 1));
            case 17: return same(call, number(0, last + 1));
            case 18: return same(call, number(0, 7), number(0, 4), number(1, 6));
            case 20: return same(call, one(), number(0, random.nextInt(6) == 0 ? 99 : 8));
            case 21: return same(call, number(0, random.nextInt(6) == 0 ? 99 : 8));
            case 23: return same(call, one(), number(0, 2), number(0, 7), number(0, 2), number(1, random.nextInt(8) + 1));
            case 24: return same(call, one(), number(0, random.nextInt(6) == 0 ? 99 : 8), number(0, 10), number(0, 1));
            case 25: return same(call, number(0, 60), number(1, 999999), number(0, 1));
            case 27: return random.nextInt(4) != 0 || same(call, number(0, 1));
            case 26: return same(call, number(0, 1));
            case 19: case 28: return same(call, one());
            case 22: return same(call, number(0, 1));
            case 29: return same(call, one(), number(0, 5));
            case 30: return same(call, one(), number(0, 1));
            case 31: return same(call, number(0, 16));
            case 32: return same(call, number(0, 5));
            default: return same(call);
        }
    }

    private boolean run() {
        boolean fine = true;
        if (random.nextInt(10) != 0) {
            fine = tell();
        }
        while (fine && calls < CALLS - 60) {
            int way = random.nextInt(100);
            if (way == 0 && calls < CALLS - 250) {
                fine = tell();
            } else if (way < 4) {
                fine = fill();
            } else {
                fine = any();
            }
        }
        return fine;
    }

    public static void main(String[] args) {
        for (int run = 0; run < RUNS; run++) {
            if (!new ModelTest(run).run()) {
                System.out.println("run " + run + " is wrong");
                System.exit(1);
            }
        }
        System.out.println(RUNS + " drawn runs are as the model has them");
    }
}
