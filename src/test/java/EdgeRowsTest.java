/** The edges of rows: promises 2 to 5, 38, and what is told of rows and findings ahead of them; a method a sentence. */
public final class EdgeRowsTest {
    private static final int BAD = DishLift.BAD, NONE = DishLift.NONE;
    private static final int NULL = -1000011, PLACE = -1000012, KIND = -1000013, SIZE = -1000014, STORE = -1000015;
    private static final int LEAST = Integer.MIN_VALUE, MOST = Integer.MAX_VALUE;
    private static final Check check = new Check();

    public static void main(String[] args) {
        missingAtFirst();
        rowsThereAre();
        lanesThereAre();
        itemsThereMayBe();
        zeroAtFirst();
        inPlaceOfWhatIsThere();
        rowBad();
        rowSize();
        lowestBitsOfBytes();
        lowestBitsOfShorts();
        lowestBitsOfInts();
        whatItIsThenIsKept();
        setBad();
        setNull();
        setPlace();
        copyAsTheyWereAhead();
        copyNothingAndAll();
        copyBad();
        copyNull();
        copyStore();
        copyPlaceBelow();
        copyPlaceBeyond();
        copyChangesNothingIfFound();
        dropTellsHowMany();
        dropBad();
        dropNull();
        findingsByNumber();
        statusAtFirst();
        statusStaysBehindBad();
        statusIsOfTheLatest();
        check.end();
    }

    /** An item as who() sees it, by a dish that is served, whose heat stays: NONE, if it is not from 0 to 60. */
    private static int item(DishLift x, int row, int i) {
        return x.who(0, 3, row, i, 1);
    }

    private static void items(String what, DishLift x, int row, int... due) {
        for (int i = 0; i < due.length; i++) {
            check.due(what + ", item " + i, item(x, row, i), due[i]);
        }
        check.due(what + ", no more items", item(x, row, due.length), PLACE);
    }

    private static DishLift withServed() {
        DishLift x = Check.of("d2,1,9;h0,0,1,7;");
        x.minutes(1);
        return x;
    }

    private static void put(DishLift x, int row, int... items) {
        for (int i = 0; i < items.length; i++) {
            x.set(row, i, items[i]);
        }
    }

    private static void missingAtFirst() {
        check.sentence("ROWS 0 .. 7 are missing (at first)");
        DishLift x = new DishLift();
        check.due("count(0)", x.count(0), 0);
        for (int row = 0; row <= 7; row++) {
            check.due("drop " + row, x.drop(row), NULL);
        }
    }

    private static void rowsThereAre() {
        check.sentence("ROWS 0 .. 7");
        DishLift x = new DishLift();
        for (int row = 0; row <= 7; row++) {
            check.due("row " + row, x.row(row, row % 3, row), row);
            check.due("count(0)", x.count(0), row + 1);
        }
        for (int row = 0; row <= 7; row++) {
            check.due("each has its own length: drop " + row, x.drop(row), row);
            check.due("count(0)", x.count(0), 7 - row);
        }
    }

    private static void lanesThereAre() {
        check.sentence("have a LANE (0 bytes, 1 shorts, 2 ints)");
        DishLift x = new DishLift();
        int[] due = {112, 4464, 70000};
        for (int lane = 0; lane <= 2; lane++) {
            check.due("row of lane " + lane, x.row(lane, lane, 1), 1);
            check.due("70000 in lane " + lane, x.set(lane, 0, 70000), due[lane]);
        }
    }

    private static void itemsThereMayBe() {
        check.sentence("and 0 to 40 ITEMS");
        DishLift x = new DishLift();
        check.due("none", x.row(0, 0, 0), 0);
        check.due("a row of none is there", x.count(0), 1);
        check.due("a row of none has no item 0", x.set(0, 0, 1), PLACE);
        check.due("one", x.row(0, 0, 1), 1);
        check.due("its item 0", x.set(0, 0, 1), 1);
        check.due("no item 1", x.set(0, 1, 1), PLACE);
        check.due("forty", x.row(0, 0, 40), 40);
        check.due("the last of forty", x.set(0, 39, 1), 1);
        check.due("no item 40", x.set(0, 40, 1), PLACE);
    }

    private static void zeroAtFirst() {
        check.sentence("ITEMS, 0 at first");
        DishLift x = withServed();
        x.row(0, 2, 3);
        items("new", x, 0, 0, 0, 0);
        put(x, 0, 5, 6, 7);
        x.row(0, 2, 3);
        items("in place of one", x, 0, 0, 0, 0);
        put(x, 0, 5, 6, 7);
        x.row(0, 2, 1);
        x.row(0, 2, 3);
        items("in place of a shorter one", x, 0, 0, 0, 0);
        put(x, 0, 5, 6, 7);
        x.drop(0);
        x.row(0, 2, 3);
        items("behind a drop", x, 0, 0, 0, 0);
    }

    private static void inPlaceOfWhatIsThere() {
        check.sentence("A ROW of a LANE with n ITEMS, in place of what is there: n");
        DishLift x = new DishLift();
        x.row(3, 2, 40);
        check.due("shorter, of another lane", x.row(3, 0, 2), 2);
        check.due("no row more", x.count(0), 1);
        check.due("the lane is the new one", x.set(3, 1, 300), 44);
        check.due("the length is the new one", x.set(3, 2, 1), PLACE);
        check.due("longer", x.row(3, 1, 5), 5);
        check.due("the length is the new one", x.set(3, 4, 40000), -25536);
    }

    private static void rowBad() {
        check.sentence("row. BAD: ROW, LANE, n above 40");
        DishLift x = new DishLift();
        for (int row : new int[] {-1, 8, LEAST, MOST}) {
            check.due("row " + row, x.row(row, 0, 1), BAD);
        }
        for (int lane : new int[] {-1, 3, LEAST, MOST}) {
            check.due("lane " + lane, x.row(0, lane, 1), BAD);
        }
        for (int n : new int[] {41, MOST}) {
            check.due("n " + n, x.row(0, 0, n), BAD);
        }
        check.due("nothing came of it", x.count(0), 0);
    }

    private static void rowSize() {
        check.sentence("row. SIZE (fewer than none), behind BAD");
        DishLift x = new DishLift();
        x.row(0, 1, 2);
        for (int n : new int[] {-1, LEAST}) {
            check.due("n " + n, x.row(0, 0, n), SIZE);
            check.due("status", x.status(), 4);
            check.due("a row that is missing", x.row(1, 0, n), SIZE);
        }
        check.due("the row stays", x.set(0, 1, 300), 300);
        check.due("the other is missing yet", x.count(0), 1);
        check.due("BAD row ahead of SIZE", x.row(8, 0, -1), BAD);
        check.due("BAD lane ahead of SIZE", x.row(0, 3, -1), BAD);
    }

    private static void stored(int lane, int[][] pairs) {
        DishLift x = new DishLift();
        x.row(0, lane, 1);
        for (int[] pair : pairs) {
            check.due(pair[0] + " in lane " + lane, x.set(0, 0, pair[0]), pair[1]);
        }
    }

    private static void lowestBitsOfBytes() {
        check.sentence("ITEM i becomes v, its lowest bits, as many as the LANE has (bytes)");
        stored(0, new int[][] {{0, 0}, {127, 127}, {128, -128}, {255, -1}, {256, 0}, {-1, -1}, {-128, -128},
            {-129, 127}, {-256, 0}, {MOST, -1}, {LEAST, 0}});
    }

    private static void lowestBitsOfShorts() {
        check.sentence("ITEM i becomes v, its lowest bits, as many as the LANE has (shorts)");
        stored(1, new int[][] {{128, 128}, {32767, 32767}, {32768, -32768}, {65535, -1}, {65536, 0}, {-1, -1},
            {-32768, -32768}, {-32769, 32767}, {-65536, 0}, {MOST, -1}, {LEAST, 0}});
    }

    private static void lowestBitsOfInts() {
        check.sentence("ITEM i becomes v, its lowest bits, as many as the LANE has (ints)");
        stored(2, new int[][] {{128, 128}, {32768, 32768}, {65536, 65536}, {-1, -1}, {MOST, MOST}, {LEAST, LEAST}});
    }

    private static void whatItIsThenIsKept() {
        check.sentence("ITEM i becomes v: what it is then");
        DishLift x = withServed();
        x.row(0, 0, 3);
        x.row(1, 1, 3);
        x.set(0, 1, 256 + 7);
        items("bytes", x, 0, 0, 7, 0);
        x.set(1, 0, 65536 + 9);
        items("shorts", x, 1, 9, 0, 0);
        x.set(1, 0, 256 + 7);
        items("not from 0 to 60", x, 1, NONE, 0, 0);
    }

    private static void setBad() {
        check.sentence("set. BAD: ROW");
        DishLift x = new DishLift();
        for (int row : new int[] {-1, 8, LEAST, MOST}) {
            check.due("row " + row, x.set(row, 0, 0), BAD);
            check.due("row " + row + " and place", x.set(row, -1, 0), BAD);
        }
        check.due("no finding", x.status(), 0);
    }

    private static void setNull() {
        check.sentence("set. NULL (a ROW that is missing), ahead of PLACE");
        DishLift x = new DishLift();
        for (int row = 0; row <= 7; row++) {
            check.due("row " + row, x.set(row, 0, 0), NULL);
        }
        check.due("and no such place", x.set(0, -1, 0), NULL);
        x.row(0, 0, 1);
        x.drop(0);
        check.due("dropped", x.set(0, 0, 0), NULL);
        check.due("status", x.status(), 1);
    }

    private static void setPlace() {
        check.sentence("set. PLACE (no such place of a ROW)");
        DishLift x = withServed();
        x.row(0, 0, 2);
        put(x, 0, 5, 6);
        for (int i : new int[] {-1, 2, 40, LEAST, MOST}) {
            check.due("place " + i, x.set(0, i, 9), PLACE);
            check.due("status", x.status(), 2);
        }
        items("what was there stays", x, 0, 5, 6);
        check.due("the first place", x.set(0, 0, 3), 3);
        check.due("the last place", x.set(0, 1, 4), 4);
    }

    private static void copyAsTheyWereAhead() {
        check.sentence("n ITEMS of a from i on come to b from j on, as they were ahead");
        DishLift x = withServed();
        x.row(0, 0, 5);
        put(x, 0, 1, 2, 3, 4, 5);
        check.due("on by one", x.copy(0, 0, 0, 1, 4), 4);
        items("on by one", x, 0, 1, 1, 2, 3, 4);
        put(x, 0, 1, 2, 3, 4, 5);
        check.due("back by one", x.copy(0, 1, 0, 0, 4), 4);
        items("back by one", x, 0, 2, 3, 4, 5, 5);
        put(x, 0, 1, 2, 3, 4, 5);
        check.due("on by two", x.copy(0, 0, 0, 2, 3), 3);
        items("on by two", x, 0, 1, 2, 1, 2, 3);
        check.due("to itself", x.copy(0, 0, 0, 0, 5), 5);
        items("to itself", x, 0, 1, 2, 1, 2, 3);
    }

    private static void copyNothingAndAll() {
        check.sentence("n ITEMS of a from i on come to b from j on: n");
        DishLift x = withServed();
        x.row(0, 2, 40);
        x.row(1, 2, 40);
        x.row(2, 2, 0);
        x.row(3, 2, 0);
        put(x, 0, 5, 6, 7);
        x.set(0, 39, 9);
        check.due("none", x.copy(0, 0, 1, 0, 0), 0);
        check.due("none came", item(x, 1, 0), 0);
        check.due("none from behind the last to behind the last", x.copy(0, 40, 1, 40, 0), 0);
        check.due("none of none", x.copy(2, 0, 3, 0, 0), 0);
        check.due("status", x.status(), 0);
        check.due("all", x.copy(0, 0, 1, 0, 40), 40);
        check.due("the first came", item(x, 1, 0), 5);
        check.due("the last came", item(x, 1, 39), 9);
        check.due("the last to the first", x.copy(0, 39, 1, 0, 1), 1);
        check.due("it came", item(x, 1, 0), 9);
        check.due("the first to the last", x.copy(0, 0, 1, 39, 1), 1);
        check.due("it came", item(x, 1, 39), 5);
        check.due("what is copied stays", item(x, 0, 39), 9);
    }

    private static void copyBad() {
        check.sentence("copy. BAD: ROWS, ahead of NULL");
        DishLift x = new DishLift();
        x.row(0, 0, 1);
        for (int row : new int[] {-1, 8, LEAST, MOST}) {
            check.due("a " + row, x.copy(row, 0, 0, 0, 1), BAD);
            check.due("b " + row, x.copy(0, 0, row, 0, 1), BAD);
            check.due("a " + row + ", b missing", x.copy(row, 0, 1, 0, 1), BAD);
            check.due("a missing, b " + row, x.copy(1, 0, row, 0, 1), BAD);
        }
        check.due("no finding", x.status(), 0);
    }

    private static void copyNull() {
        check.sentence("copy. NULL (a ROW that is missing), ahead of STORE and PLACE");
        DishLift x = new DishLift();
        x.row(0, 0, 1);
        x.row(2, 2, 1);
        x.drop(2);
        check.due("a", x.copy(1, 0, 0, 0, 0), NULL);
        check.due("b", x.copy(0, 0, 1, 0, 0), NULL);
        check.due("both", x.copy(1, 0, 1, 0, 0), NULL);
        check.due("a was of another lane", x.copy(2, 0, 0, 0, 0), NULL);
        check.due("b was of another lane", x.copy(0, 0, 2, 0, 0), NULL);
        check.due("and no such place", x.copy(0, -1, 1, 0, 0), NULL);
        check.due("status", x.status(), 1);
    }

    private static void copyStore() {
        check.sentence("copy. STORE (ROWS of two LANES), ahead of PLACE");
        DishLift x = new DishLift();
        for (int lane = 0; lane <= 2; lane++) {
            x.row(lane, lane, 2);
            x.row(lane + 3, lane, 2);
        }
        for (int a = 0; a <= 2; a++) {
            for (int b = 3; b <= 5; b++) {
                boolean same = a == b - 3;
                check.due("lanes " + a + ", " + (b - 3), x.copy(a, 0, b, 0, 2), same ? 2 : STORE);
                check.due("status", x.status(), same ? 0 : 5);
                check.due("none, lanes " + a + ", " + (b - 3), x.copy(a, 0, b, 0, 0), same ? 0 : STORE);
                check.due("no such place, lanes " + a + ", " + (b - 3), x.copy(a, 3, b, 0, 1), same ? PLACE : STORE);
            }
        }
    }

    private static DishLift fiveAndTwo() {
        DishLift x = withServed();
        x.row(0, 0, 5);
        x.row(1, 0, 2);
        put(x, 0, 1, 2, 3, 4, 5);
        put(x, 1, 6, 7);
        return x;
    }

    private static void copyPlaceBelow() {
        check.sentence("copy. PLACE (i, j, n below 0)");
        DishLift x = fiveAndTwo();
        for (int v : new int[] {-1, LEAST}) {
            check.due("i " + v, x.copy(0, v, 1, 0, 1), PLACE);
            check.due("j " + v, x.copy(0, 0, 1, v, 1), PLACE);
            check.due("n " + v, x.copy(0, 0, 1, 0, v), PLACE);
            check.due("i " + v + ", none", x.copy(0, v, 1, 0, 0), PLACE);
            check.due("j " + v + ", none", x.copy(0, 0, 1, v, 0), PLACE);
            check.due("n " + v + " from the ends", x.copy(0, 5, 1, 2, v), PLACE);
            check.due("status", x.status(), 2);
        }
    }

    private static void copyPlaceBeyond() {
        check.sentence("copy. PLACE (beyond an end)");
        DishLift x = fiveAndTwo();
        check.due("i 6, none", x.copy(0, 6, 1, 0, 0), PLACE);
        check.due("j 3, none", x.copy(0, 0, 1, 3, 0), PLACE);
        check.due("i 5", x.copy(0, 5, 1, 0, 1), PLACE);
        check.due("j 2", x.copy(0, 0, 1, 2, 1), PLACE);
        check.due("i 4, two", x.copy(0, 4, 1, 0, 2), PLACE);
        check.due("j 1, two", x.copy(0, 0, 1, 1, 2), PLACE);
        check.due("three to two", x.copy(0, 0, 1, 0, 3), PLACE);
        check.due("three of two", x.copy(1, 0, 0, 0, 3), PLACE);
        check.due("i, n wrap around", x.copy(0, MOST, 1, 0, MOST), PLACE);
        check.due("j, n wrap around", x.copy(0, 0, 1, MOST, MOST), PLACE);
        check.due("i and 1 wrap around", x.copy(0, MOST, 1, 0, 1), PLACE);
        check.due("j and 1 wrap around", x.copy(0, 0, 1, MOST, 1), PLACE);
        check.due("1 and n wrap around", x.copy(0, 1, 1, 1, MOST), PLACE);
        check.due("status", x.status(), 2);
        check.due("just to the ends", x.copy(0, 3, 1, 0, 2), 2);
        items("just to the ends", x, 1, 4, 5);
    }

    private static void copyChangesNothingIfFound() {
        check.sentence("What is found changes nothing but status() (copy)");
        DishLift x = fiveAndTwo();
        x.copy(0, 0, 1, 0, 3);
        x.copy(0, 4, 1, 0, 2);
        x.copy(0, -1, 1, 0, 2);
        x.copy(0, 0, 2, 0, 1);
        items("a", x, 0, 1, 2, 3, 4, 5);
        items("b", x, 1, 6, 7);
    }

    private static void dropTellsHowMany() {
        check.sentence("A ROW is missing from now on: how many ITEMS it had");
        DishLift x = new DishLift();
        for (int n : new int[] {0, 1, 39, 40}) {
            x.row(7, 1, n);
            check.due("drop of " + n, x.drop(7), n);
            check.due("missing", x.count(0), 0);
            check.due("missing", x.set(7, 0, 1), NULL);
        }
        x.row(0, 0, 1);
        x.row(1, 0, 1);
        x.drop(0);
        check.due("the other is there yet", x.set(1, 0, 1), 1);
    }

    private static void dropBad() {
        check.sentence("drop. BAD");
        DishLift x = new DishLift();
        for (int row : new int[] {-1, 8, LEAST, MOST}) {
            check.due("row " + row, x.drop(row), BAD);
        }
        check.due("no finding", x.status(), 0);
    }

    private static void dropNull() {
        check.sentence("drop. NULL");
        DishLift x = new DishLift();
        x.row(2, 0, 3);
        x.drop(2);
        check.due("again", x.drop(2), NULL);
        check.due("status", x.status(), 1);
        check.due("never there", x.drop(6), NULL);
    }

    private static void findingsByNumber() {
        check.sentence("-1000010 less 1 NULL, 2 PLACE, 3 KIND, 4 SIZE, 5 STORE");
        DishLift x = withServed();
        x.row(0, 0, 1);
        x.row(1, 1, 1);
        int[] got = {x.drop(7), x.set(0, 1, 0), x.as(0, 4), x.row(0, 0, -1), x.copy(0, 0, 1, 0, 1)};
        int[] due = {NULL, PLACE, KIND, SIZE, STORE};
        for (int k = 0; k < due.length; k++) {
            check.due("finding " + (k + 1), got[k], due[k]);
            check.due("is -1000010 less it", due[k], -1000010 - (k + 1));
        }
        x.drop(7);
        check.due("status 1", x.status(), 1);
        x.set(0, 1, 0);
        check.due("status 2", x.status(), 2);
        x.as(0, 4);
        check.due("status 3", x.status(), 3);
        x.row(0, 0, -1);
        check.due("status 4", x.status(), 4);
        x.copy(0, 0, 1, 0, 1);
        check.due("status 5", x.status(), 5);
    }

    private static void statusAtFirst() {
        check.sentence("status. 0: it had none, or there was none");
        DishLift x = withServed();
        check.due("no such call yet", x.status(), 0);
        x.drop(7);
        check.due("row", x.row(0, 0, 1) * 10 + x.status(), 10);
        x.drop(7);
        check.due("set", x.set(0, 0, 1) * 10 + x.status(), 10);
        x.drop(7);
        check.due("copy", x.copy(0, 0, 0, 0, 1) * 10 + x.status(), 10);
        x.drop(7);
        check.due("who", x.who(0, 0, 0, 0, 1) * 10 + x.status(), 0);
        x.drop(7);
        check.due("who, the least", x.who(0, 3, 0, 0, 1) * 10 + x.status(), 10);
        x.set(0, 0, -1);
        x.drop(7);
        check.due("who, NONE is no finding", x.who(0, 3, 0, 0, 1) + x.status(), NONE);
        x.drop(7);
        check.due("as", x.as(0, 1) * 10 + x.status(), 0);
        x.drop(7);
        check.due("drop", x.drop(0) * 10 + x.status(), 10);
    }

    private static void statusStaysBehindBad() {
        check.sentence("status. Of the latest call with a ROW, or as(), that was not BAD");
        DishLift x = withServed();
        x.as(0, 4);
        x.row(8, 0, 1);
        check.due("row", x.status(), 3);
        x.set(8, 0, 1);
        check.due("set", x.status(), 3);
        x.copy(8, 0, 0, 0, 1);
        check.due("copy", x.status(), 3);
        x.drop(8);
        check.due("drop", x.status(), 3);
        x.who(0, 0, 8, 0, 1);
        check.due("who, row", x.status(), 3);
        x.who(1, 0, 0, 0, 1);
        check.due("who, dish", x.status(), 3);
        x.who(0, 0, 0, 0, 13);
        check.due("who, n", x.status(), 3);
        x.as(0, 6);
        check.due("as", x.status(), 3);
        x.as(1, 0);
        check.due("as, dish", x.status(), 3);
        x.status();
        check.due("status itself", x.status(), 3);
    }

    private static void statusIsOfTheLatest() {
        check.sentence("status. Of the latest call with a ROW, or as()");
        DishLift x = withServed();
        x.drop(7);
        x.as(0, 4);
        check.due("the latest of two", x.status(), 3);
        x.minutes(2);
        x.pull(1);
        x.undo();
        x.send(0, 1, 9);
        x.minutes(25);
        x.ask(0, 0);
        x.kind(0);
        x.trace(99);
        x.image(0);
        x.restore(1);
        x.restore(0);
        x.count(9);
        x.feed(1);
        x.house();
        x.fault();
        check.due("other calls, refused or not", x.status(), 3);
        check.due("a new house", Check.tell(x, "d2,1,9;h0,0,1,7;") * 10 + x.status(), 13);
    }
}
