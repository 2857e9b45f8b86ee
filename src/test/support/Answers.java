/** What answers calls: the class itself, or the plain model of the document. */
interface Answers {
    long to(Call call, int... a);
}
