/** The plain model's answers. */
final class ModelAnswers implements Answers {
    private final PlainModel model = new PlainModel();

    @Override
    public long to(Call call, int... a) {
        try {
            return answer(call, a);
        } catch (PlainModel.Refused refused) {
            return refused.answer;
        }
    }

    private long answer(Call call, int[] a) {
        switch (call) {
            case ROW: return model.row(a[0], a[1], a[2]);
            case SET: return model.set(a[0], a[1], a[2]);
            case COPY: return model.copy(a[0], a[1], a[2], a[3], a[4]);
            case DROP: return model.drop(a[0]);
            case FEED: return model.feed(a[0]);
            case SHEET: return model.sheet();
            case FAULT: return model.fault();
            case UNDO: return model.undo();
            case PUT: return model.put(a[0], a[1], a[2], a[3]);
            case TAKE: return model.take(a[0]);
            case MOVE: return model.move(a[0], a[1]);
            case CHANGE: return model.change(a[0], a[1], a[2], a[3]);
            case STYLE: return model.style(a[0], a[1]);
            case PARAGRAPH: return model.paragraph(a[0], a[1]);
            case LABEL: return model.label(a[0], a[1], a[2]);
            case CALLED: return model.called(a[0], a[1], a[2]);
            case SPAN: return model.span(a[0], a[1], a[2], a[3]);
            case REGISTER: return model.register(a[0]);
            case BEARS: return model.bears(a[0], a[1], a[2]);
            case CHANGED: return model.changed(a[0]);
            case NEAREST: return model.nearest(a[0], a[1]);
            case SETS: return model.sets(a[0]);
            case DEEPEST: return model.deepest(a[0]);
            case WHO: return model.who(a[0], a[1], a[2], a[3], a[4]);
            case LOST: return model.lost(a[0], a[1], a[2], a[3]);
            case DRAWN: return model.drawn(a[0], a[1], a[2]);
            case IMAGE: return model.image(a[0]);
            case RESTORE: return model.restore(a[0]);
            case KIND: return model.kind(a[0]);
            case AS: return model.as(a[0], a[1]);
            case ASK: return model.ask(a[0], a[1]);
            case TRACE: return model.trace(a[0]);
            case COUNT: return model.count(a[0]);
            default: return model.status();
        }
    }
}
