/** The calls of the face, by name, so that runs of them can be told as lists. */
enum Call {
    ROW, SET, COPY, DROP, FEED, SHEET, FAULT, UNDO, PUT, TAKE, MOVE, CHANGE, STYLE, PARAGRAPH, LABEL, CALLED, SPAN,
    REGISTER, BEARS, CHANGED, NEAREST, SETS, DEEPEST, WHO, LOST, DRAWN, IMAGE, RESTORE, KIND, AS, ASK, TRACE, COUNT,
    STATUS;

    /** The call as it is written in Java. */
    String with(int... a) {
        StringBuilder line = new StringBuilder(name().toLowerCase()).append('(');
        for (int i = 0; i < a.length; i++) {
            line.append(i == 0 ? "" : ", ").append(a[i]);
        }
        return line.append(')').toString();
    }
}
