import java.util.ArrayList;
import java.util.List;
import java.util.Random;

/** Drawn runs of calls on two objects by turns, each answer held against the plain model of the document. */
public final class ModelTest {
    private static final int RUNS = 6000, CALLS = 512;

    private final Random random;
    private final Answers x = new ClassAnswers();
    private final Answers model = new ModelAnswers();
    private final List<String> told = new ArrayList<>();
    private int calls = 0;

    private ModelTest(long seed) {
        random = new Random(seed);
    }

    /** Mostly a number that is as told, sometimes one beside the edge or far off. */
    private int number(int least, int most) {
        int way = random.nextInt(60);
        if (way == 0) {
            return least - 1;
        }
        if (way == 1) {
            return most + 1;
        }
        if (way == 2) {
            return new int[] {Integer.MIN_VALUE, Integer.MAX_VALUE, -1, 1 << 16, 300}[random.nextInt(5)];
        }
        return most < least ? least : least + random.nextInt(most - least + 1);
    }

    // Asked of the model, so that the class has no calls but those that are told.
    private int ask(Call call, int... a) {
        return (int) model.to(call, a);
    }

    private int many() {
        return ask(Call.COUNT, 1);
    }

    private int one() {
        return number(0, Math.max(0, many() - 1));
    }

    private boolean same(Call call, int... a) {
        long due = model.to(call, a);
        long got = x.to(call, a);
        told.add(call.with(a) + " " + got);
        calls++;
        if (got != due) {
            System.out.println("due is " + due + " at the end of:");
            told.forEach(row -> System.out.println("  " + row));
        }
        return got == due;
    }

    private String sheetText() {
        StringBuilder text = new StringBuilder();
        for (int level = 0; level < 3; level++) {
            text.append(level == 0 ? 'n' : ',').append(random.nextInt(4));
        }
        text.append(';');
        int many = random.nextInt(8) == 0 ? 15 + random.nextInt(3) : 1 + random.nextInt(15);
        String sorts = random.nextInt(4) == 0 ? "iiiiiirc" : "irctht";
        for (int p = 0; p < many; p++) {
            text.append(sorts.charAt(random.nextInt(sorts.length()))).append(random.nextInt(3)).append(',');
            text.append(random.nextInt(21)).append(';');
        }
        if (random.nextInt(3) == 0) {
            int at = random.nextInt(text.length());
            String odd = "n;,ircth0123459a z\u00e9I.";
            switch (random.nextInt(4)) {
                case 0:
                    text.deleteCharAt(at);
                    break;
                case 1:
                    text.setCharAt(at, odd.charAt(random.nextInt(odd.length())));
                    break;
                case 2:
                    text.insert(at, odd.charAt(random.nextInt(odd.length())));
                    break;
                default:
                    text.setLength(at);
                    break;
            }
        }
        return text.toString();
    }

    private boolean tell() {
        String text = sheetText();
        for (int i = 0; i < text.length() && calls < CALLS; i++) {
            if (!same(Call.FEED, text.charAt(i))) {
                return false;
            }
        }
        return same(Call.SHEET) && same(Call.FAULT);
    }

    /** A row that tells a label, or the counts of the first paragraphs, so that bears and who find some. */
    private boolean fill() {
        int row = random.nextInt(8);
        if (many() == 0) {
            return same(Call.ROW, row, random.nextInt(3), random.nextInt(41));
        }
        boolean counts = random.nextBoolean();
        int[] items = new int[40];
        int many = 0;
        if (counts) {
            many = 1 + random.nextInt(many());
            for (int p = 0; p < many; p++) {
                items[p] = ask(Call.KIND, p) < 4 ? ask(Call.PARAGRAPH, p, 2 + ask(Call.PARAGRAPH, p, 0)) : 0;
            }
        } else {
            int p = random.nextInt(many());
            for (; ask(Call.LABEL, p, 0, many) >= 0; many++) {
                items[many] = ask(Call.LABEL, p, 0, many);
            }
        }
        if (random.nextInt(6) == 0) {
            items[random.nextInt(many + 1)]++;
        }
        boolean fine = same(Call.ROW, row, random.nextInt(3), many);
        for (int i = 0; i < many; i++) {
            fine = fine && same(Call.SET, row, i, items[i]);
        }
        for (int k = 0; k < 3; k++) {
            fine = fine && (counts ? same(Call.WHO, one(), k, row, 0, many) : same(Call.BEARS, row, 0, many));
        }
        return fine;
    }

    private boolean any() {
        Call call = Call.values()[random.nextInt(Call.values().length)];
        int last = Math.max(0, many() - 1);
        switch (call) {
            case ROW: return same(call, number(0, 7), number(0, 2), number(-1, 40));
            case SET: return same(call, number(0, 7), number(0, 12), random.nextInt());
            case COPY: return same(call, number(0, 7), number(0, 6), number(0, 7), number(0, 6), number(0, 8));
            case DROP: return random.nextInt(3) != 0 || same(call, number(0, 7));
            case FEED: return random.nextInt(8) != 0 || same(call, number(0, 255));
            case SHEET: return random.nextInt(8) != 0 || same(call);
            case PUT: return same(call, number(0, last + 1), number(1, 5), number(0, 2), number(0, 20));
            case TAKE: return same(call, one());
            case MOVE: return same(call, one(), one());
            case CHANGE: return same(call, one(), number(1, 5), number(0, 2), number(0, 20));
            case STYLE: return same(call, number(0, 2), number(0, 3));
            case PARAGRAPH: return same(call, one(), number(0, 5));
            case LABEL: return same(call, one(), number(0, 2), number(0, 9));
            case CALLED: return same(call, one(), one(), number(0, 9));
            case SPAN: return same(call, one(), one(), number(0, 5), number(0, 1));
            case REGISTER: return same(call, number(0, last + 1));
            case BEARS: return same(call, number(0, 7), number(0, 4), number(1, 6));
            case NEAREST: return same(call, one(), number(0, random.nextInt(6) == 0 ? 99 : 8));
            case SETS: return same(call, number(0, random.nextInt(6) == 0 ? 99 : 8));
            case WHO:
                return same(call, one(), number(0, 2), number(0, 7), number(0, 2), number(1, random.nextInt(8) + 1));
            case LOST:
                return same(call, one(), number(0, random.nextInt(6) == 0 ? 99 : 8), number(0, 10), number(0, 1));
            case DRAWN: return same(call, number(0, 60), number(1, 999999), number(0, 1));
            case RESTORE: return random.nextInt(4) != 0 || same(call, number(0, 1));
            case IMAGE: return same(call, number(0, 1));
            case CHANGED: case KIND: return same(call, one());
            case DEEPEST: return same(call, number(0, 1));
            case AS: return same(call, one(), number(0, 5));
            case ASK: return same(call, one(), number(0, 1));
            case TRACE: return same(call, number(0, 16));
            case COUNT: return same(call, number(0, 5));
            default: return same(call);
        }
    }

    private boolean begin() {
        return random.nextInt(10) == 0 || tell();
    }

    private boolean goesOn() {
        return calls < CALLS - 60;
    }

    private boolean step() {
        int way = random.nextInt(100);
        if (way == 0 && calls < CALLS - 250) {
            return tell();
        }
        return way < 4 ? fill() : any();
    }

    /** Two objects by turns: what one of them is told, the other one doesn't know. */
    private static boolean runBoth(ModelTest one, ModelTest other) {
        boolean fine = one.begin() && other.begin();
        while (fine && (one.goesOn() || other.goesOn())) {
            fine = (!one.goesOn() || one.step()) && (!other.goesOn() || other.step());
        }
        return fine;
    }

    public static void main(String[] args) {
        for (int run = 0; run < RUNS; run += 2) {
            if (!runBoth(new ModelTest(run), new ModelTest(run + 1))) {
                System.out.println("run " + run + " or the one behind it is wrong");
                System.exit(1);
            }
        }
        System.out.println(RUNS + " drawn runs are as the model has them");
    }
}
