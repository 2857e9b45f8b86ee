/** The edges of rows: the first part of the Terms, promises 2 to 5 and 35, a test for each sentence. */
public final class RowEdgesTest {
    private static final Check C = new Check();
    private static final int LEAST = Integer.MIN_VALUE, GREATEST = Integer.MAX_VALUE;
    private static final int[] NO_ROWS = {LEAST, LEAST + 1, -1, 8, 9, GREATEST};
    private static final int[] NO_PLACES_OF_FOUR = {LEAST, LEAST + 1, -1, 4, 5, 40, GREATEST - 1, GREATEST};

    private static CountedLists withRow(int row, int lane, int n) {
        CountedLists x = Check.told("n0,0,0;r0,0;");
        x.row(row, lane, n);
        return x;
    }

    /** The item (0 to 20): the one start by which paragraph 0, a restart, counts it. */
    private static void dueItem(String sentence, CountedLists x, int row, int i, int item) {
        C.due(sentence, x.who(0, 2, row, i, 1), 1 << item);
    }

    private static void dueItems(String sentence, CountedLists x, int row, int... items) {
        for (int i = 0; i < items.length; i++) {
            dueItem(sentence + ": item " + i, x, row, i, items[i]);
        }
        C.due(sentence + ": how many", x.drop(row), items.length);
    }

    private static void rowsAre0To7() {
        CountedLists x = Check.told("n0,0,0;r0,0;");
        for (int row = 0; row <= 7; row++) {
            C.due("row " + row + " is one", x.row(row, 0, 3), 3);
            C.due("row " + row + " is one: set", x.set(row, 2, 5), 5);
            C.due("row " + row + " is one: copy", x.copy(row, 2, row, 0, 1), 1);
            C.due("row " + row + " is one: bears", x.bears(row, 0, 1), Check.NONE);
            C.due("row " + row + " is one: who", x.who(0, 2, row, 0, 1), 1 << 5);
            C.due("rows", x.count(0), row + 1);
        }
        for (int row : NO_ROWS) {
            C.due("no row " + row + ": row", x.row(row, 0, 3), Check.BAD);
            C.due("no row " + row + ": set", x.set(row, 0, 3), Check.BAD);
            C.due("no row " + row + ": copy from it", x.copy(row, 0, 0, 0, 1), Check.BAD);
            C.due("no row " + row + ": copy to it", x.copy(0, 0, row, 0, 1), Check.BAD);
            C.due("no row " + row + ": drop", x.drop(row), Check.BAD);
            C.due("no row " + row + ": bears", x.bears(row, 0, 1), Check.BAD);
            C.due("no row " + row + ": who", x.who(0, 0, row, 0, 1), Check.BAD);
        }
        C.due("all rows stay", x.count(0), 8);
    }

    private static void rowsAreMissingAtFirst() {
        CountedLists x = Check.told("n0,0,0;r0,0;");
        x.row(0, 0, 1);
        for (int row = 1; row <= 7; row++) {
            C.due("missing: set of " + row, x.set(row, 0, 0), Check.NULL);
            C.due("missing: copy from " + row, x.copy(row, 0, 0, 0, 0), Check.NULL);
            C.due("missing: copy to " + row, x.copy(0, 0, row, 0, 0), Check.NULL);
            C.due("missing: drop of " + row, x.drop(row), Check.NULL);
            C.due("missing: bears of " + row, x.bears(row, 0, 1), Check.NULL);
            C.due("missing: who of " + row, x.who(0, 0, row, 0, 1), Check.NULL);
        }
        C.due("missing rows are not counted", x.count(0), 1);
    }

    private static void lanesAre0To2() {
        CountedLists x = new CountedLists();
        int[] last = {127, 32767, GREATEST};
        int[] beyond = {-128, -32768, LEAST};
        for (int lane = 0; lane <= 2; lane++) {
            C.due("lane " + lane, x.row(lane, lane, 2), 2);
            C.due("the greatest of lane " + lane, x.set(lane, 0, last[lane]), last[lane]);
            C.due("one more than the greatest of lane " + lane, x.set(lane, 0, last[lane] + 1), beyond[lane]);
            C.due("the least of lane " + lane, x.set(lane, 1, beyond[lane]), beyond[lane]);
            C.due("one less than the least of lane " + lane, x.set(lane, 1, beyond[lane] - 1), last[lane]);
        }
        for (int lane : new int[] {LEAST, -1, 3, GREATEST}) {
            C.due("no lane " + lane, x.row(0, lane, 2), Check.BAD);
            C.due("no lane " + lane + ", ahead of SIZE", x.row(0, lane, -1), Check.BAD);
        }
        C.due("the row stays", x.set(0, 1, 9), 9);
    }

    private static void itemsAre0To40() {
        CountedLists x = new CountedLists();
        C.due("no items", x.row(0, 0, 0), 0);
        C.due("a row of no items is there", x.count(0), 1);
        C.due("a row of no items is there: drop", x.drop(0), 0);
        C.due("40 items", x.row(1, 2, 40), 40);
        C.due("the last of 40", x.set(1, 39, 7), 7);
        C.due("41 items", x.row(2, 0, 41), Check.BAD);
        C.due("the most of int", x.row(2, 0, GREATEST), Check.BAD);
        C.due("none of these came", x.count(0), 1);
        C.due("fewer than none", x.row(1, 0, -1), Check.SIZE);
        C.due("fewer than none: status", x.status(), 4);
        C.due("the least of int", x.row(1, 0, LEAST), Check.SIZE);
        C.due("BAD row is ahead of SIZE", x.row(8, 0, -1), Check.BAD);
        C.due("the row that was there stays", x.drop(1), 40);
    }

    private static void itemsAre0AtFirst() {
        CountedLists x = withRow(3, 2, 40);
        for (int i = 0; i < 40; i++) {
            dueItem("0 at first: item " + i, x, 3, i, 0);
        }
        for (int i = 0; i < 40; i++) {
            x.set(3, i, i % 20 + 1);
        }
        x.row(3, 2, 40);
        for (int i = 0; i < 40; i++) {
            dueItem("0 anew: item " + i, x, 3, i, 0);
        }
        x.set(3, 2, 9);
        x.drop(3);
        x.row(3, 1, 3);
        dueItems("0 after a drop", x, 3, 0, 0, 0);
        x.row(3, 2, 5);
        x.set(3, 4, 8);
        x.row(3, 2, 2);
        x.row(3, 2, 5);
        dueItem("0 after a shorter row", x, 3, 4, 0);
    }

    private static void setTakesTheLowestBits() {
        CountedLists x = new CountedLists();
        x.row(0, 0, 1);
        x.row(1, 1, 1);
        x.row(2, 2, 1);
        C.due("8 bits: 255", x.set(0, 0, 255), -1);
        C.due("8 bits: 256", x.set(0, 0, 256), 0);
        C.due("8 bits: 32768 + 3", x.set(0, 0, 32771), 3);
        C.due("8 bits: the greatest", x.set(0, 0, GREATEST), -1);
        C.due("8 bits: the least", x.set(0, 0, LEAST), 0);
        C.due("16 bits: 255", x.set(1, 0, 255), 255);
        C.due("16 bits: 65535", x.set(1, 0, 65535), -1);
        C.due("16 bits: 65536", x.set(1, 0, 65536), 0);
        C.due("16 bits: the greatest", x.set(1, 0, GREATEST), -1);
        C.due("16 bits: the least", x.set(1, 0, LEAST), 0);
        C.due("32 bits: 65536", x.set(2, 0, 65536), 65536);
        C.due("32 bits: -1", x.set(2, 0, -1), -1);
    }

    private static void itemIsWhatSetAnswered() {
        CountedLists x = withRow(0, 0, 2);
        x.set(0, 1, 256 + 7);
        dueItems("the item, not what was told", x, 0, 0, 7);
    }

    private static void setHasPlaces() {
        CountedLists x = withRow(5, 2, 4);
        C.due("the first place", x.set(5, 0, 11), 11);
        C.due("the last place", x.set(5, 3, 12), 12);
        for (int i : NO_PLACES_OF_FOUR) {
            C.due("no place " + i, x.set(5, i, 20), Check.PLACE);
            C.due("no place " + i + ": status", x.status(), 2);
        }
        dueItems("all items stay", x, 5, 11, 0, 0, 12);
        C.due("NULL is ahead of PLACE", x.set(5, -1, 0), Check.NULL);
        C.due("BAD is ahead of all", x.set(8, -1, 0), Check.BAD);
        x.row(5, 2, 0);
        C.due("a row of no items has no place", x.set(5, 0, 0), Check.PLACE);
        x.row(5, 2, 40);
        C.due("place 40 of 40", x.set(5, 40, 0), Check.PLACE);
    }

    private static CountedLists withTwoRows() {
        CountedLists x = Check.told("n0,0,0;r0,0;");
        Check.fill(x, 0, 0, 1, 2, 3, 4);
        Check.fill(x, 1, 0, 5, 6);
        return x;
    }

    private static void copyOfNone() {
        CountedLists x = withTwoRows();
        C.due("none, from the first place", x.copy(0, 0, 1, 0, 0), 0);
        C.due("none, at both ends", x.copy(0, 4, 1, 2, 0), 0);
        C.due("none, beyond the end of a", x.copy(0, 5, 1, 0, 0), Check.PLACE);
        C.due("none, beyond the end of b", x.copy(0, 0, 1, 3, 0), Check.PLACE);
        C.due("none, ahead of a", x.copy(0, -1, 1, 0, 0), Check.PLACE);
        C.due("none, ahead of b", x.copy(0, 0, 1, -1, 0), Check.PLACE);
        x.row(2, 0, 0);
        C.due("none of a row of no items", x.copy(2, 0, 2, 0, 0), 0);
        C.due("one of a row of no items", x.copy(2, 0, 0, 0, 1), Check.PLACE);
        C.due("one to a row of no items", x.copy(0, 0, 2, 0, 1), Check.PLACE);
        dueItems("all items stay", x, 1, 5, 6);
    }

    private static void copyOfAll() {
        CountedLists x = withTwoRows();
        C.due("all of b", x.copy(1, 0, 0, 2, 2), 2);
        dueItems("up to the end of a", x, 0, 1, 2, 5, 6);
        x.row(2, 2, 40);
        x.row(3, 2, 40);
        x.set(2, 39, 17);
        C.due("40 items", x.copy(2, 0, 3, 0, 40), 40);
        dueItem("the last of 40", x, 3, 39, 17);
        C.due("41 items", x.copy(2, 0, 3, 0, 41), Check.PLACE);
    }

    private static void copyBeyondAnEnd() {
        CountedLists x = withTwoRows();
        C.due("up to the end of a", x.copy(0, 3, 1, 0, 1), 1);
        C.due("beyond the end of a", x.copy(0, 3, 1, 0, 2), Check.PLACE);
        C.due("up to the end of b", x.copy(0, 0, 1, 1, 1), 1);
        C.due("beyond the end of b", x.copy(0, 0, 1, 1, 2), Check.PLACE);
        for (int wrong : new int[] {LEAST, LEAST + 1, -1, GREATEST - 1, GREATEST}) {
            C.due("i " + wrong, x.copy(0, wrong, 1, 0, 1), Check.PLACE);
            C.due("j " + wrong, x.copy(0, 0, 1, wrong, 1), Check.PLACE);
            C.due("n " + wrong, x.copy(0, 1, 1, 1, wrong), Check.PLACE);
            C.due("i and n " + wrong, x.copy(0, wrong, 1, 0, wrong), Check.PLACE);
            C.due("j and n " + wrong, x.copy(0, 0, 1, wrong, wrong), Check.PLACE);
            C.due("all " + wrong, x.copy(0, wrong, 1, wrong, wrong), Check.PLACE);
        }
        // Sums that wrap around to what would fit.
        C.due("i and n make 0", x.copy(0, 1, 1, 0, -1), Check.PLACE);
        C.due("i and n wrap around", x.copy(0, LEAST, 1, 0, LEAST), Check.PLACE);
        C.due("j and n wrap around", x.copy(0, 0, 1, GREATEST, GREATEST), Check.PLACE);
        C.due("status", x.status(), 2);
        dueItems("a stays", x, 0, 1, 2, 3, 4);
        dueItems("b has what came alone", x, 1, 4, 1);
    }

    private static void copyOverItself() {
        CountedLists x = withTwoRows();
        C.due("onwards", x.copy(0, 0, 0, 1, 3), 3);
        dueItems("onwards, as they were ahead", x, 0, 1, 1, 2, 3);
        CountedLists y = withTwoRows();
        C.due("back", y.copy(0, 1, 0, 0, 3), 3);
        dueItems("back, as they were ahead", y, 0, 2, 3, 4, 4);
        CountedLists z = withTwoRows();
        C.due("to where they are", z.copy(0, 0, 0, 0, 4), 4);
        dueItems("to where they are", z, 0, 1, 2, 3, 4);
    }

    private static void copyFindsTheFirstInTime() {
        CountedLists x = withTwoRows();
        x.row(2, 1, 2);
        x.row(3, 2, 0);
        int[][] twoLanes = {{0, 2}, {2, 0}, {0, 3}, {3, 0}, {2, 3}, {3, 2}};
        for (int[] lanes : twoLanes) {
            C.due("two lanes", x.copy(lanes[0], 0, lanes[1], 0, 0), Check.STORE);
            C.due("two lanes: status", x.status(), 5);
        }
        C.due("STORE is ahead of PLACE, of i", x.copy(0, -1, 2, 0, 1), Check.STORE);
        C.due("STORE is ahead of PLACE, of n", x.copy(0, 0, 2, 0, -1), Check.STORE);
        C.due("STORE is ahead of PLACE, of j", x.copy(0, 0, 2, GREATEST, 1), Check.STORE);
        C.due("NULL of a is ahead of PLACE", x.copy(6, -1, 0, 0, 1), Check.NULL);
        C.due("NULL of b is ahead of PLACE", x.copy(0, -1, 6, 0, 1), Check.NULL);
        C.due("NULL of both", x.copy(6, -1, 7, 0, -1), Check.NULL);
        for (int row = 0; row < 4; row++) {
            C.due("NULL of b, whatever the lane of " + row, x.copy(row, 0, 6, 0, 0), Check.NULL);
            C.due("NULL of a, whatever the lane of " + row, x.copy(6, 0, row, 0, 0), Check.NULL);
        }
        C.due("BAD of a is ahead of NULL of b", x.copy(-1, 0, 6, 0, 0), Check.BAD);
        C.due("BAD of b is ahead of NULL of a", x.copy(6, 0, 8, 0, 0), Check.BAD);
        C.due("BAD is ahead of PLACE", x.copy(8, -1, 0, -1, -1), Check.BAD);
        C.due("no BAD changes the status", x.status(), 1);
    }

    private static void dropLeavesNothing() {
        CountedLists x = withTwoRows();
        x.row(7, 2, 40);
        C.due("of 40 items", x.drop(7), 40);
        C.due("the others stay", x.count(0), 2);
        C.due("missing from now on", x.drop(7), Check.NULL);
        C.due("missing from now on: set", x.set(7, 0, 0), Check.NULL);
        C.due("missing from now on: copy", x.copy(7, 0, 0, 0, 0), Check.NULL);
        C.due("made again", x.row(7, 0, 1), 1);
        C.due("made again, and there", x.drop(7), 1);
    }

    private static void statusOfCallsWithARow() {
        CountedLists x = withTwoRows();
        C.due("none yet", new CountedLists().status(), 0);
        x.drop(6);
        C.due("a finding", x.status(), 1);
        C.due("status() tells it again", x.status(), 1);
        int[] refused = {x.row(8, 0, 0), x.row(0, 3, 0), x.row(0, 0, 41), x.set(8, 0, 0), x.copy(8, 0, 0, 0, 0),
            x.drop(-1), x.bears(8, 0, 1), x.bears(0, 0, 0), x.who(0, 3, 0, 0, 1), x.as(1, 0), x.as(0, 6)};
        for (int answer : refused) {
            C.due("refused", answer, Check.BAD);
        }
        C.due("BAD leaves it", x.status(), 1);
        x.feed('n');
        x.sheet();
        x.undo();
        x.put(0, 4, 0, 0);
        x.kind(0);
        x.ask(0, 0);
        x.paragraph(0, 0);
        x.lost(0, 0, 0, 0);
        x.trace(0);
        x.count(0);
        x.image(0);
        x.restore(0);
        x.restore(1);
        C.due("calls without a row leave it", x.status(), 1);
        x.as(0, 4);
        C.due("as() without a finding", x.status(), 0);
        x.as(0, 5);
        C.due("as() with one", x.status(), 3);
        x.who(0, 0, 0, 0, 1);
        C.due("who without one", x.status(), 0);
        x.who(0, 0, 0, 4, 1);
        C.due("who with one", x.status(), 2);
        C.due("bears answers NONE", x.bears(0, 0, 4), Check.NONE);
        C.due("NONE is no finding", x.status(), 0);
    }

    private static void stateLeavesTheStatus() {
        CountedLists x = new CountedLists();
        x.drop(0);
        C.due("STATE", x.bears(0, 0, 1), Check.STATE);
        C.due("STATE leaves the status", x.status(), 1);
        x.row(0, 0, 1);
        C.due("STATE", x.bears(0, 1, 1), Check.STATE);
        C.due("STATE leaves the status of none", x.status(), 0);
    }

    public static void main(String[] args) {
        rowsAre0To7();
        rowsAreMissingAtFirst();
        lanesAre0To2();
        itemsAre0To40();
        itemsAre0AtFirst();
        setTakesTheLowestBits();
        itemIsWhatSetAnswered();
        setHasPlaces();
        copyOfNone();
        copyOfAll();
        copyBeyondAnEnd();
        copyOverItself();
        copyFindsTheFirstInTime();
        dropLeavesNothing();
        statusOfCallsWithARow();
        stateLeavesTheStatus();
        C.end();
    }
}
