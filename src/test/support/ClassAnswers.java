/** The class's own answers; nothing is promised beyond 512 of them. */
final class ClassAnswers implements Answers {
    private static final int MOST_CALLS = 512;

    private final CountedLists x = new CountedLists();
    private int calls = 0;

    @Override
    public long to(Call call, int... a) {
        calls++;
        if (calls > MOST_CALLS) {
            throw new IllegalStateException("a test goes beyond " + MOST_CALLS + " calls of one object");
        }
        switch (call) {
            case ROW: return x.row(a[0], a[1], a[2]);
            case SET: return x.set(a[0], a[1], a[2]);
            case COPY: return x.copy(a[0], a[1], a[2], a[3], a[4]);
            case DROP: return x.drop(a[0]);
            case FEED: return x.feed(a[0]);
            case SHEET: return x.sheet();
            case FAULT: return x.fault();
            case UNDO: return x.undo();
            case PUT: return x.put(a[0], a[1], a[2], a[3]);
            case TAKE: return x.take(a[0]);
            case MOVE: return x.move(a[0], a[1]);
            case CHANGE: return x.change(a[0], a[1], a[2], a[3]);
            case STYLE: return x.style(a[0], a[1]);
            case PARAGRAPH: return x.paragraph(a[0], a[1]);
            case LABEL: return x.label(a[0], a[1], a[2]);
            case CALLED: return x.called(a[0], a[1], a[2]);
            case SPAN: return x.span(a[0], a[1], a[2], a[3]);
            case REGISTER: return x.register(a[0]);
            case BEARS: return x.bears(a[0], a[1], a[2]);
            case CHANGED: return x.changed(a[0]);
            case NEAREST: return x.nearest(a[0], a[1]);
            case SETS: return x.sets(a[0]);
            case DEEPEST: return x.deepest(a[0]);
            case WHO: return x.who(a[0], a[1], a[2], a[3], a[4]);
            case LOST: return x.lost(a[0], a[1], a[2], a[3]);
            case DRAWN: return x.drawn(a[0], a[1], a[2]);
            case IMAGE: return x.image(a[0]);
            case RESTORE: return x.restore(a[0]);
            case KIND: return x.kind(a[0]);
            case AS: return x.as(a[0], a[1]);
            case ASK: return x.ask(a[0], a[1]);
            case TRACE: return x.trace(a[0]);
            case COUNT: return x.count(a[0]);
            default: return x.status();
        }
    }
}
