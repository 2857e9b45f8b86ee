/** Promises 2 to 5 and 35: rows, and the finding of the latest call with one. */
public final class RowsTest {
    private static final Check C = new Check();

    private static void rowPromise2() {
        CountedLists x = new CountedLists();
        C.due("row(0, 0, 40)", x.row(0, 0, 40), 40);
        C.due("row(7, 2, 0)", x.row(7, 2, 0), 0);
        C.due("count(0) of two rows", x.count(0), 2);
        C.due("row(-1, 0, 1)", x.row(-1, 0, 1), Check.BAD);
        C.due("row(8, 0, 1)", x.row(8, 0, 1), Check.BAD);
        C.due("row(0, -1, 1)", x.row(0, -1, 1), Check.BAD);
        C.due("row(0, 3, 1)", x.row(0, 3, 1), Check.BAD);
        C.due("row(0, 0, 41)", x.row(0, 0, 41), Check.BAD);
        C.due("row(8, 0, -1): BAD is ahead of SIZE", x.row(8, 0, -1), Check.BAD);
        C.due("row(0, 3, -1): BAD is ahead of SIZE", x.row(0, 3, -1), Check.BAD);
        C.due("row(0, 0, -1)", x.row(0, 0, -1), Check.SIZE);
        C.due("row(0, 0, least)", x.row(0, 0, Integer.MIN_VALUE), Check.SIZE);
        C.due("the row stays, if SIZE is found", x.drop(0), 40);
        C.due("a row anew", x.row(0, 2, 3), 3);
        C.due("set(0, 2, 9)", x.set(0, 2, 9), 9);
        C.due("in place of what is there", x.row(0, 2, 3), 3);
        C.due("row(1, 2, 3)", x.row(1, 2, 3), 3);
        Check.tell(x, "n0,0,0;r0,0;");
        C.due("items are 0 at first", x.who(0, 2, 0, 2, 1), 1);
    }

    private static void setPromise3() {
        CountedLists x = new CountedLists();
        C.due("set of a missing row", x.set(3, 0, 1), Check.NULL);
        C.due("set(8, ..)", x.set(8, 0, 1), Check.BAD);
        C.due("set(-1, ..)", x.set(-1, 0, 1), Check.BAD);
        x.row(0, 0, 2);
        x.row(1, 1, 2);
        x.row(2, 2, 2);
        C.due("a byte", x.set(0, 0, 127), 127);
        C.due("a byte beyond", x.set(0, 0, 128), -128);
        C.due("a byte of 256 + 5", x.set(0, 1, 261), 5);
        C.due("a byte of -129", x.set(0, 1, -129), 127);
        C.due("a short", x.set(1, 0, 32767), 32767);
        C.due("a short beyond", x.set(1, 0, 32768), -32768);
        C.due("a short of 65536 + 7", x.set(1, 1, 65543), 7);
        C.due("an int", x.set(2, 1, Integer.MIN_VALUE), Integer.MIN_VALUE);
        C.due("set(0, 2, ..)", x.set(0, 2, 1), Check.PLACE);
        C.due("set(0, -1, ..)", x.set(0, -1, 1), Check.PLACE);
        C.due("set(0, greatest, ..)", x.set(0, Integer.MAX_VALUE, 1), Check.PLACE);
        x.row(4, 0, 0);
        C.due("set of a row without items", x.set(4, 0, 1), Check.PLACE);
    }

    /** What the items are (0 to 20): paragraph 0 is a restart, and who tells the start that counts the item. */
    private static void dueItems(String call, CountedLists x, int row, int... items) {
        for (int i = 0; i < items.length; i++) {
            C.due(call + ", item " + i, x.who(0, 2, row, i, 1), items[i] <= 20 ? 1 << items[i] : 0);
        }
    }

    private static void copyPromise4() {
        CountedLists x = Check.told("n0,0,0;r0,0;");
        Check.fill(x, 0, 0, 1, 2, 3, 4, 5);
        Check.fill(x, 1, 0, 6, 7, 8);
        C.due("copy(0, 1, 1, 0, 2)", x.copy(0, 1, 1, 0, 2), 2);
        dueItems("copied", x, 1, 2, 3, 8);
        C.due("copy onwards over itself", x.copy(0, 0, 0, 1, 4), 4);
        dueItems("onwards", x, 0, 1, 1, 2, 3, 4);
        C.due("copy back over itself", x.copy(0, 1, 0, 0, 4), 4);
        dueItems("back", x, 0, 1, 2, 3, 4, 4);
        C.due("none at the end", x.copy(0, 5, 1, 3, 0), 0);
        C.due("none beyond the end", x.copy(0, 6, 1, 3, 0), Check.PLACE);
        C.due("beyond the first's end", x.copy(0, 4, 1, 0, 2), Check.PLACE);
        C.due("beyond the second's end", x.copy(0, 0, 1, 2, 2), Check.PLACE);
        C.due("i below 0", x.copy(0, -1, 1, 0, 1), Check.PLACE);
        C.due("j below 0", x.copy(0, 0, 1, -1, 1), Check.PLACE);
        C.due("n below 0", x.copy(0, 0, 1, 0, -1), Check.PLACE);
        C.due("n greatest", x.copy(0, 1, 1, 1, Integer.MAX_VALUE), Check.PLACE);
        C.due("i greatest", x.copy(0, Integer.MAX_VALUE, 1, 0, 1), Check.PLACE);
        dueItems("all stays", x, 1, 2, 3, 8);
        C.due("no row a", x.copy(8, 0, 0, 0, 0), Check.BAD);
        C.due("no row b", x.copy(0, 0, -1, 0, 0), Check.BAD);
        C.due("BAD is ahead of NULL", x.copy(5, 0, 8, 0, 0), Check.BAD);
        C.due("a is missing", x.copy(5, 0, 0, 0, 0), Check.NULL);
        C.due("b is missing", x.copy(0, 0, 5, 0, 0), Check.NULL);
        x.row(2, 1, 3);
        C.due("two lanes", x.copy(0, 0, 2, 0, 1), Check.STORE);
        C.due("STORE is ahead of PLACE", x.copy(0, -1, 2, 0, 1), Check.STORE);
        C.due("NULL is ahead of PLACE", x.copy(5, -1, 0, 0, 1), Check.NULL);
    }

    private static void dropPromise5() {
        CountedLists x = new CountedLists();
        x.row(6, 1, 12);
        C.due("drop(6)", x.drop(6), 12);
        C.due("drop(6) again", x.drop(6), Check.NULL);
        C.due("count(0)", x.count(0), 0);
        C.due("drop(8)", x.drop(8), Check.BAD);
        C.due("drop(-1)", x.drop(-1), Check.BAD);
        x.row(6, 1, 0);
        C.due("drop of one without items", x.drop(6), 0);
        x.row(6, 0, 2);
        C.due("items are 0 after a drop", x.set(6, 0, 0), 0);
    }

    private static void statusPromise35() {
        CountedLists x = new CountedLists();
        C.due("status of a new object", x.status(), 0);
        x.drop(0);
        C.due("status: NULL", x.status(), 1);
        x.row(0, 0, 2);
        C.due("status: none", x.status(), 0);
        x.set(0, 2, 0);
        C.due("status: PLACE", x.status(), 2);
        x.drop(9);
        C.due("status: BAD does not count", x.status(), 2);
        x.bears(0, 0, 1);
        C.due("status: STATE does not count", x.status(), 2);
        x.row(0, 0, -5);
        C.due("status: SIZE", x.status(), 4);
        x.row(1, 1, 2);
        C.due("status: none again", x.status(), 0);
        x.copy(0, 0, 1, 0, 1);
        C.due("status: STORE", x.status(), 5);
        Check.tell(x, "n0,0,0;t0,0;i0,0;");
        C.due("status: other calls do not count", x.status(), 5);
        x.as(0, 1);
        C.due("status: KIND", x.status(), 3);
        x.as(0, 6);
        C.due("status: as() that is BAD", x.status(), 3);
        x.as(0, 4);
        C.due("status: as() without one", x.status(), 0);
        x.who(0, 0, 5, 0, 1);
        C.due("status: who, NULL", x.status(), 1);
        x.who(0, 0, 0, 2, 1);
        C.due("status: who, PLACE", x.status(), 2);
        x.who(0, 0, 0, 0, 1);
        C.due("status: who without one", x.status(), 0);
        x.bears(5, 0, 1);
        C.due("status: bears, NULL", x.status(), 1);
        C.due("bears that answers NONE", x.bears(0, 0, 1), Check.NONE);
        C.due("status: NONE is no finding", x.status(), 0);
        x.bears(0, 1, 2);
        C.due("status: bears, PLACE", x.status(), 2);
        x.copy(0, 0, 0, 0, 0);
        C.due("status: copy without one", x.status(), 0);
        x.set(7, 0, 0);
        C.due("status: set, NULL", x.status(), 1);
        x.set(0, 0, 0);
        C.due("status: set without one", x.status(), 0);
        x.set(7, 0, 0);
        x.drop(0);
        C.due("status: drop without one", x.status(), 0);
    }

    public static void main(String[] args) {
        rowPromise2();
        setPromise3();
        copyPromise4();
        dropPromise5();
        statusPromise35();
        C.end();
    }
}
