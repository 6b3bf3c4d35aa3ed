/** Promises 2 to 5 (rows) and 38 (status). */
public final class RowsTest {
    private static final int NULL = -1000011, PLACE = -1000012, SIZE = -1000014, STORE = -1000015;
    private static final int LEAST = Integer.MIN_VALUE, MOST = Integer.MAX_VALUE;
    private static final Check check = new Check();

    public static void main(String[] args) {
        newRows();
        items();
        copies();
        copiesFound();
        drops();
        statusStays();
        check.end();
    }

    private static void newRows() {
        DishLift x = new DishLift();
        check.due("status, new", x.status(), 0);
        check.due("row 0 bytes", x.row(0, 0, 0), 0);
        check.due("row 7 ints 40", x.row(7, 2, 40), 40);
        check.due("row 1 shorts 3", x.row(1, 1, 3), 3);
        check.due("count", x.count(0), 3);
        check.due("row in place of one", x.row(7, 1, 2), 2);
        check.due("count", x.count(0), 3);
        check.due("beyond the new one", x.set(7, 2, 1), PLACE);
        check.due("row -1", x.row(-1, 0, 1), DishLift.BAD);
        check.due("row 8", x.row(8, 0, 1), DishLift.BAD);
        check.due("lane -1", x.row(2, -1, 1), DishLift.BAD);
        check.due("lane 3", x.row(2, 3, 1), DishLift.BAD);
        check.due("n 41", x.row(2, 0, 41), DishLift.BAD);
        check.due("n most", x.row(2, 0, MOST), DishLift.BAD);
        check.due("BAD ahead of SIZE", x.row(8, 0, -1), DishLift.BAD);
        check.due("lane BAD ahead of SIZE", x.row(0, 3, -1), DishLift.BAD);
        check.due("SIZE", x.row(7, 0, -1), SIZE);
        check.due("SIZE, least", x.row(7, 0, LEAST), SIZE);
        check.due("status", x.status(), 4);
        check.due("what was found changed nothing", x.set(7, 1, 70000), 4464);
        check.due("status", x.status(), 0);
    }

    private static void items() {
        DishLift x = new DishLift();
        x.row(0, 0, 2);
        x.row(1, 1, 2);
        x.row(2, 2, 2);
        check.due("byte 127", x.set(0, 0, 127), 127);
        check.due("byte 128", x.set(0, 0, 128), -128);
        check.due("byte 511", x.set(0, 0, 511), -1);
        check.due("byte least", x.set(0, 0, LEAST), 0);
        check.due("short 32768", x.set(1, 1, 32768), -32768);
        check.due("short 65535", x.set(1, 1, 65535), -1);
        check.due("int most", x.set(2, 1, MOST), MOST);
        check.due("int least", x.set(2, 1, LEAST), LEAST);
        check.due("row -1", x.set(-1, 0, 0), DishLift.BAD);
        check.due("row 8", x.set(8, 0, 0), DishLift.BAD);
        check.due("missing", x.set(3, 0, 0), NULL);
        check.due("missing ahead of the place", x.set(3, -1, 0), NULL);
        check.due("status", x.status(), 1);
        check.due("place 2", x.set(0, 2, 0), PLACE);
        check.due("place -1", x.set(0, -1, 0), PLACE);
        check.due("place most", x.set(0, MOST, 0), PLACE);
        check.due("place least", x.set(0, LEAST, 0), PLACE);
        check.due("status", x.status(), 2);
    }

    /** What stands in a row shows by who() of a dish that is served: its heat stays. */
    private static boolean has(DishLift x, int row, int i, int v) {
        return x.who(0, 2, row, i, 1) == 1 && x.who(0, 3, row, i, 1) == v;
    }

    private static DishLift withServed() {
        DishLift x = Check.of("d2,1,9;h0,0,1,7;");
        x.minutes(1);
        return x;
    }

    private static void copies() {
        DishLift x = withServed();
        x.row(0, 0, 5);
        for (int i = 0; i < 5; i++) {
            x.set(0, i, 10 + i);
        }
        check.due("copy on", x.copy(0, 0, 0, 1, 4), 4);
        check.holds("10 10 11 12 13", has(x, 0, 0, 10) && has(x, 0, 1, 10) && has(x, 0, 2, 11)
                && has(x, 0, 3, 12) && has(x, 0, 4, 13));
        check.due("copy back", x.copy(0, 2, 0, 0, 3), 3);
        check.holds("11 12 13 12 13", has(x, 0, 0, 11) && has(x, 0, 1, 12) && has(x, 0, 2, 13)
                && has(x, 0, 3, 12) && has(x, 0, 4, 13));
        x.row(5, 0, 3);
        check.due("to another", x.copy(0, 1, 5, 2, 1), 1);
        check.holds("0 0 12", has(x, 5, 0, 0) && has(x, 5, 1, 0) && has(x, 5, 2, 12));
        x.row(5, 0, 3);
        check.holds("0 at first, again", has(x, 5, 2, 0));
    }

    private static void copiesFound() {
        DishLift x = new DishLift();
        x.row(0, 0, 5);
        x.row(1, 1, 5);
        x.row(2, 0, 2);
        check.due("a BAD", x.copy(-1, 0, 0, 0, 0), DishLift.BAD);
        check.due("b BAD", x.copy(0, 0, 8, 0, 0), DishLift.BAD);
        check.due("BAD ahead of NULL", x.copy(7, 0, 8, 0, 0), DishLift.BAD);
        check.due("a missing", x.copy(7, 0, 0, 0, 0), NULL);
        check.due("b missing", x.copy(0, 0, 7, 0, 0), NULL);
        check.due("NULL ahead of PLACE", x.copy(0, 9, 7, 0, 0), NULL);
        check.due("two lanes", x.copy(0, 0, 1, 0, 0), STORE);
        check.due("status", x.status(), 5);
        check.due("STORE ahead of PLACE", x.copy(0, -1, 1, 0, 0), STORE);
        check.due("nothing, at the ends", x.copy(0, 5, 2, 2, 0), 0);
        check.due("status", x.status(), 0);
        check.due("i beyond", x.copy(0, 6, 2, 0, 0), PLACE);
        check.due("j beyond", x.copy(0, 0, 2, 3, 0), PLACE);
        check.due("i -1", x.copy(0, -1, 2, 0, 1), PLACE);
        check.due("j -1", x.copy(0, 0, 2, -1, 1), PLACE);
        check.due("n -1", x.copy(0, 0, 2, 0, -1), PLACE);
        check.due("n too many for b", x.copy(0, 0, 2, 0, 3), PLACE);
        check.due("n too many for a", x.copy(2, 1, 0, 0, 2), PLACE);
        check.due("n most", x.copy(0, 1, 2, 1, MOST), PLACE);
        check.due("i most", x.copy(0, MOST, 2, 0, 1), PLACE);
        check.due("all most", x.copy(0, MOST, 2, MOST, MOST), PLACE);
        check.due("n least", x.copy(0, 0, 2, 0, LEAST), PLACE);
        check.due("status", x.status(), 2);
    }

    private static void drops() {
        DishLift x = new DishLift();
        x.row(3, 1, 17);
        check.due("drop", x.drop(3), 17);
        check.due("status", x.status(), 0);
        check.due("count", x.count(0), 0);
        check.due("drop again", x.drop(3), NULL);
        check.due("status", x.status(), 1);
        check.due("set", x.set(3, 0, 1), NULL);
        check.due("drop -1", x.drop(-1), DishLift.BAD);
        check.due("drop 8", x.drop(8), DishLift.BAD);
        x.row(4, 0, 0);
        check.due("drop an empty one", x.drop(4), 0);
    }

    private static void statusStays() {
        DishLift x = withServed();
        check.due("a hot one is no cold one", x.as(0, 4), -1000013);
        check.due("status", x.status(), 3);
        x.row(9, 0, 0);
        x.set(9, 0, 0);
        x.copy(9, 0, 0, 0, 0);
        x.drop(9);
        x.who(0, 0, 9, 0, 1);
        x.as(0, 6);
        x.minutes(25);
        x.pull(1);
        x.undo();
        x.feed(1);
        x.house();
        x.ask(0, 0);
        check.due("status, behind BAD and other calls", x.status(), 3);
        check.due("as", x.as(0, 1), 0);
        check.due("status", x.status(), 0);
        check.due("who, missing", x.who(0, 0, 1, 0, 1), NULL);
        check.due("status", x.status(), 1);
        x.row(1, 0, 1);
        check.due("status", x.status(), 0);
        check.due("who, place", x.who(0, 0, 1, 0, 2), PLACE);
        check.due("status", x.status(), 2);
        check.due("who, none", x.who(0, 5, 1, 0, 1), DishLift.NONE);
        check.due("status", x.status(), 0);
    }
}
