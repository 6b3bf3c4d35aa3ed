/** Promises 17 to 30: what is foretold, by hand. */
public final class ForetoldTest {
    private static final Check check = new Check();
    private static final int BAD = DishLift.BAD, STATE = DishLift.STATE, NONE = DishLift.NONE;
    private static final int LEAST = Integer.MIN_VALUE, MOST = Integer.MAX_VALUE;
    /** The hot one is served behind 4 minutes with 27, the cold one behind 6 with 10. */
    private static final String TWO = "d4,1,9;h0,3,2,30;c2,1,1,5;";

    public static void main(String[] args) {
        aheadAndLater();
        whenAndDone();
        sixtyMinutes();
        fines();
        sites();
        needs();
        ranks();
        ranksAnew();
        holds();
        shares();
        turns();
        kindsAndFloorsThatFit();
        heatsAndRopesThatFit();
        whoRefused();
        stuck();
        drawn();
        nothingChanges();
        check.end();
    }

    private static void aheadAndLater() {
        DishLift x = new DishLift();
        check.due("later, no house", x.later(61), STATE);
        Check.tell(x, TWO);
        int[] floor = {0, 1, 2, 3, 2, 1, 1};
        int[] hot = {0, 10, 10, 10, 11, 11, 11};
        int[] cold = {2, 2, 2, 2, 2, 10, 11};
        int[] heat = {5, 6, 7, 8, 9, 10, 10};
        for (int n = 0; n <= 6; n++) {
            check.due("later " + n, x.later(n), floor[n]);
            check.due("hot " + n, x.ahead(0, n, 0), hot[n]);
            check.due("cold " + n, x.ahead(1, n, 0), cold[n]);
            check.due("heat " + n, x.ahead(1, n, 1), heat[n]);
        }
        check.due("60", x.ahead(0, 60, 1), 27);
        check.due("weight", x.ahead(0, 60, 2), 2);
        check.due("later 60", x.later(60), 1);
        check.due("later 61", x.later(61), BAD);
        check.due("later -1", x.later(-1), BAD);
        check.due("n 61", x.ahead(0, 61, 0), BAD);
        check.due("n -1", x.ahead(0, -1, 0), BAD);
        check.due("dish 2", x.ahead(2, 0, 0), BAD);
        check.due("dish -1", x.ahead(-1, 0, 0), BAD);
        check.due("what 3", x.ahead(0, 0, 3), BAD);
        check.due("what -1", x.ahead(0, 0, -1), BAD);
        DishLift soup = Check.of("d4,1,9;s0,3,9,30;");
        check.due("a soup spills", soup.ahead(0, 2, 2), 7);
    }

    private static void whenAndDone() {
        DishLift x = new DishLift();
        check.due("no house", x.done(), STATE);
        check.due("no house", x.when(0), BAD);
        Check.tell(x, TWO);
        check.due("hot", x.when(0), 4);
        check.due("cold", x.when(1), 6);
        check.due("all", x.done(), 6);
        check.due("2", x.when(2), BAD);
        check.due("-1", x.when(-1), BAD);
        x.minutes(4);
        check.due("now", x.when(0), 0);
        check.due("soon", x.when(1), 2);
        check.due("all", x.done(), 2);
        x.minutes(2);
        check.due("all now", x.done(), 0);
        x.send(0, 0, 9);
        x.rope(1);
        check.due("never", x.when(0), NONE);
        check.due("not all", x.done(), NONE);
        check.due("the other", x.when(1), 0);
        check.due("ice, when it is light enough", Check.of("d2,1,1;i0,1,9,0;").when(0), 19);
    }

    /** Room for one, trips there and back: 16, 16, 16 and 6 minutes, then 6 or 7. */
    private static void sixtyMinutes() {
        DishLift x = Check.of("d9,1,9;h0,8,1,1;h0,8,1,1;h0,8,1,1;h0,3,1,1;h0,5,1,1;");
        check.due("the last but one", x.when(3), 52);
        check.due("behind 60", x.when(4), 60);
        check.due("all behind 60", x.done(), 60);
        x = Check.of("d9,1,9;h0,8,1,1;h0,8,1,1;h0,8,1,1;h0,3,1,1;h0,6,1,1;");
        check.due("behind 61", x.when(4), NONE);
        check.due("all behind 61", x.done(), NONE);
        x.minutes(1);
        check.due("behind 60 now", x.when(4), 60);
    }

    private static void fines() {
        DishLift x = new DishLift();
        check.due("no house", x.fine(-1), STATE);
        Check.tell(x, TWO);
        check.due("3", x.fine(3), 0);
        check.due("4", x.fine(4), 1);
        check.due("6", x.fine(6), 3);
        check.due("60", x.fine(60), 3);
        check.due("61", x.fine(61), BAD);
        check.due("-1", x.fine(-1), BAD);
        check.due("too cold, too warm", Check.of("d4,1,9;h0,3,2,22;c2,1,1,6;").fine(9), 0);
        check.due("just so", Check.of("d4,1,9;h0,3,2,23;c2,1,1,6;").fine(9), 1);
    }

    private static void sites() {
        DishLift x = new DishLift();
        check.due("no house", x.site(0, 0), STATE);
        Check.tell(x, TWO);
        int[][] due = {{1, 0, 0}, {2, 2, 1}, {4, 0, 1}, {5, 0, 1}, {6, 0, 2}, {40, 0, 2}};
        for (int[] one : due) {
            check.due("which " + one[0], x.site(one[0], 0), one[1]);
            check.due("how many " + one[0], x.site(one[0], 1), one[2]);
        }
        x.pull(3);
        check.due("where it is now matters not", x.site(2, 0), 2);
        check.due("0", x.site(0, 0), BAD);
        check.due("41", x.site(41, 0), BAD);
        check.due("what 2", x.site(1, 2), BAD);
        check.due("what -1", x.site(1, -1), BAD);
    }

    private static void needs() {
        DishLift x = new DishLift();
        check.due("no house", x.need(0, 0), STATE);
        Check.tell(x, TWO);
        check.due("room", x.need(6, 0), 1);
        check.due("rope", x.need(6, 1), 2);
        check.due("room in 5", x.need(5, 0), NONE);
        check.due("rope in 5", x.need(5, 1), NONE);
        check.due("0", x.need(0, 0), BAD);
        check.due("41", x.need(41, 0), BAD);
        check.due("what 2", x.need(1, 2), BAD);
        check.due("what -1", x.need(1, -1), BAD);
        x = Check.of("d2,1,40;h0,1,9,9;h0,1,9,9;h0,1,9,9;h0,1,9,9;");
        check.due("room for all", x.need(2, 0), 4);
        check.due("room for two", x.need(4, 0), 2);
        check.due("rope, room is 1", x.need(2, 1), NONE);
        x.room(4);
        check.due("rope for all", x.need(2, 1), 36);
        check.due("rope for one", x.need(8, 1), 9);
        x.rope(8);
        check.due("room, rope is 8", x.need(40, 0), NONE);
    }

    private static void ranks() {
        DishLift x = new DishLift();
        check.due("no house", x.ranks(0, -2), STATE);
        Check.tell(x, "d3,1,9;h0,2,1,30;h0,1,1,30;");
        int[][] due = {{1, 4, 0, 1}, {2, 5, 1, 0}, {4, 7, 1, 0}, {5, 7, 1, 0}, {40, 7, 1, 0}};
        for (int[] one : due) {
            check.due("how much " + one[0], x.ranks(one[0], -1), one[1]);
            check.due("first " + one[0], x.ranks(one[0], 0), one[2]);
            check.due("second " + one[0], x.ranks(one[0], 1), one[3]);
        }
        check.due("not so many", x.ranks(40, 2), NONE);
        check.due("not so many", x.ranks(40, MOST), NONE);
        check.due("k -2", x.ranks(40, -2), BAD);
        check.due("k least", x.ranks(40, LEAST), BAD);
        check.due("n 0", x.ranks(0, 0), BAD);
        check.due("n 41", x.ranks(41, 0), BAD);
        check.due("n ahead of none", x.ranks(41, 2), BAD);
        check.due("RANK stays", x.when(0), 3);
        x.room(2);
        check.due("room for both", x.ranks(40, -1), 5);
        check.due("the first of all", x.ranks(40, 0), 0);
        x.minutes(2);
        check.due("one is served", x.ranks(40, -1), 1);
        x.undo();
        check.due("and one minute ago", x.ranks(40, -1), 3);
    }

    /** One thing is another each time, n stays: what was found before must not be told again. */
    private static void ranksAnew() {
        DishLift x = Check.of("d4,1,4;h0,3,4,30;h0,1,3,30;i0,2,5,8;");
        check.due("at first", x.ranks(20, -1), 2 + 5 + 10);
        check.due("the same again", x.ranks(20, -1), 2 + 5 + 10);
        x.rope(3);
        check.due("ROPE", x.ranks(20, -1), 2 + 7 + 21);
        x.room(4);
        x.rope(12);
        check.due("ROOM", x.ranks(20, -1), 2 + 3 + 4);
        x.pull(3);
        check.due("CAR", x.ranks(20, -1), 5 + 6 + 7);
        x.undo();
        check.due("undone", x.ranks(20, -1), 2 + 3 + 4);
        x.minutes(1);
        check.due("MINUTE", x.ranks(20, -1), 1 + 2 + 3);
        x.minutes(3);
        check.due("all are served", x.ranks(20, -1), 0);
        x.send(1, 0, 9);
        check.due("sent back", x.ranks(20, -1), 4);
        Check.tell(x, "d2,1,1;h0,0,1,1;");
        check.due("another house", x.ranks(20, -1), 1);
    }

    private static void holds() {
        DishLift x = new DishLift();
        check.due("no house", x.holds(9), STATE);
        Check.tell(x, "d3,2,7;h0,0,5,30;h1,2,2,30;c2,1,4,9;i2,1,3,1;");
        check.due("how many", x.holds(0), 1 + 4 + 4);
        check.due("which", x.holds(1), 3);
        check.due("how much", x.holds(2), 7);
        x.minutes(1);
        check.due("without the one that is served", x.holds(0), 1 + 3 + 3);
        check.due("which", x.holds(1), 12);
        check.due("how much", x.holds(2), 7);
        x.rope(1);
        check.due("none but the empty one", x.holds(0), 1);
        check.due("which", x.holds(1), 0);
        check.due("how much", x.holds(2), 0);
        check.due("-1", x.holds(-1), BAD);
        check.due("3", x.holds(3), BAD);
        x = Check.of("d2,3,6;h0,1,6,1;h0,1,3,1;h0,1,3,1;h0,1,2,1;h0,1,2,1;h0,1,2,1;");
        check.due("most dishes of most weight", x.holds(1), 56);
        x.room(2);
        check.due("then two", x.holds(1), 6);
        x.room(1);
        check.due("then one", x.holds(1), 1);
        x = Check.of("d2,1,4;h0,1,4,1;h0,1,4,1;");
        check.due("least bits", x.holds(1), 1);
    }

    private static void shares() {
        DishLift x = new DishLift();
        check.due("no house", x.share(0, 1), BAD);
        Check.tell(x, "d2,1,1;h0,0,9,0;h0,1,9,30;h0,1,9,20;h0,1,9,10;");
        int[][] due = {{0, 0, 0, 0, 0}, {1, 0, 1, 0, 0}, {7, 0, 4, 2, 1}, {6, 0, 3, 2, 1}, {999, 0, 500, 333, 166}};
        for (int[] one : due) {
            for (int d = 0; d < 4; d++) {
                check.due("share " + d + " of " + one[0], x.share(d, one[0]), one[1 + d]);
            }
        }
        check.due("-1", x.share(0, -1), BAD);
        check.due("1000", x.share(0, 1000), BAD);
        check.due("dish 4", x.share(4, 1), BAD);
        check.due("dish -1", x.share(-1, 1), BAD);
        x = Check.of("d2,1,1;h0,0,9,50;h0,1,9,4;h0,1,9,4;h0,1,9,4;");
        x.minutes(1);
        check.due("served", x.share(0, 5), 0);
        check.due("first", x.share(1, 5), 2);
        check.due("second", x.share(2, 5), 2);
        check.due("third", x.share(3, 5), 1);
        x.minutes(3);
        check.due("none has any", x.share(1, 5), 0);
    }

    private static void turns() {
        DishLift x = new DishLift();
        check.due("no house", x.byTurns(9, 9), STATE);
        Check.tell(x, "d3,1,9;h0,2,1,30;");
        int[][] due = {{0, 3, 28}, {0, 2, 0}, {1, 3, 28}, {2, 3, 0}, {3, 3, 28}, {2, 20, 27}, {4, 20, 27}, {3, 20, 28}};
        for (int[] one : due) {
            check.due("turns " + one[0] + " " + one[1], x.byTurns(one[0], one[1]), one[2]);
        }
        x.pull(1);
        check.due("the cook pulls it down", x.byTurns(1, 20), 28);
        check.due("none does", x.byTurns(0, 20), 27);
        check.due("n -1", x.byTurns(-1, 1), BAD);
        check.due("n 5", x.byTurns(5, 1), BAD);
        check.due("m 0", x.byTurns(0, 0), BAD);
        check.due("m 21", x.byTurns(0, 21), BAD);
    }

    private static void kindsAndFloorsThatFit() {
        DishLift x = Check.withRow("d3,1,9;h0,2,5,30;", 7, 29, 28, 28, 28, 31, 30, 30);
        check.due("hot, soup", x.who(0, 0, 0, 1, 4), 6);
        check.due("floor 0", x.who(0, 1, 0, 1, 4), 1);
        check.due("all floors, 2 minutes", x.who(0, 1, 0, 1, 2), 7);
        check.due("cold, ice", x.who(0, 0, 0, 5, 1), 48);
        check.due("roast", x.who(0, 0, 0, 6, 1), 8);
        check.due("none", x.who(0, 0, 0, 0, 1), 0);
        check.due("no floor", x.who(0, 1, 0, 0, 1), 0);
        DishLift served = Check.withRow("d2,1,9;c0,0,5,30;", 30, 30);
        served.minutes(1);
        check.due("all kinds", served.who(0, 0, 0, 0, 2), 62);
        check.due("all floors", served.who(0, 1, 0, 0, 2), 3);
        DishLift heavy = Check.withRow("d2,1,4;h0,1,5,12;", 13, 14, 14);
        check.due("ice melts, so that it is served", heavy.who(0, 0, 0, 0, 3), 32);
        heavy.set(0, 2, 15);
        check.due("cold waits for good", heavy.who(0, 0, 0, 0, 3), 16);
    }

    private static void heatsAndRopesThatFit() {
        DishLift x = Check.withRow("d3,1,9;h0,2,5,30;", 7, 29, 28, 28, 28, 0, 0, 29, 28, 27);
        check.due("heats", x.who(0, 2, 0, 1, 4), 1);
        check.due("least", x.who(0, 3, 0, 1, 4), 30);
        check.due("ropes", x.who(0, 4, 0, 1, 4), 36);
        check.due("least", x.who(0, 5, 0, 1, 4), 5);
        check.due("ropes too weak", x.who(0, 4, 0, 7, 3), 4);
        check.due("least", x.who(0, 5, 0, 7, 3), 1);
        check.due("heats 0, 1", x.who(0, 2, 0, 5, 1), 2);
        check.due("heats 0, 1 again", x.who(0, 2, 0, 5, 2), 2);
        check.due("least 0", x.who(0, 3, 0, 5, 2), 0);
        check.due("no heat", x.who(0, 2, 0, 0, 2), 0);
        check.due("no least", x.who(0, 3, 0, 0, 2), NONE);
        check.due("no rope", x.who(0, 4, 0, 0, 1), 0);
        check.due("no least", x.who(0, 5, 0, 0, 1), NONE);
        DishLift cold = Check.withRow("d2,1,9;c0,1,5,30;", 60, 60);
        check.due("heats 59, 60", cold.who(0, 2, 0, 0, 1), 2);
        check.due("least", cold.who(0, 3, 0, 0, 1), 59);
    }

    private static void whoRefused() {
        DishLift x = new DishLift();
        x.row(0, 0, 20);
        check.due("no house", x.who(0, 0, 0, 0, 1), BAD);
        Check.tell(x, TWO);
        check.due("dish", x.who(2, 0, 0, 0, 1), BAD);
        check.due("which -1", x.who(0, -1, 0, 0, 1), BAD);
        check.due("which 6", x.who(0, 6, 0, 0, 1), BAD);
        check.due("row 8", x.who(0, 0, 8, 0, 1), BAD);
        check.due("row -1", x.who(0, 0, -1, 0, 1), BAD);
        check.due("n 0", x.who(0, 0, 0, 0, 0), BAD);
        check.due("n 13", x.who(0, 0, 0, 0, 13), BAD);
        check.due("n BAD ahead of NULL", x.who(0, 0, 1, 0, 13), BAD);
        check.due("NULL", x.who(0, 0, 1, -1, 1), -1000011);
        check.due("PLACE -1", x.who(0, 0, 0, -1, 1), -1000012);
        check.due("PLACE 20", x.who(0, 0, 0, 20, 1), -1000012);
        check.due("PLACE 9, 12", x.who(0, 0, 0, 9, 12), -1000012);
        check.due("PLACE most", x.who(0, 0, 0, MOST, 12), -1000012);
        check.due("8, 12", x.who(0, 0, 0, 8, 12), 0);
    }

    private static void part(DishLift x, int n, int p, long above, long below) {
        check.due("stuck " + n + " " + p, x.stuck(0, n, p, 0), above);
        check.due("stuck " + n + " " + p + " below", x.stuck(0, n, p, 1), below);
    }

    private static void stuck() {
        DishLift x = Check.of("d2,1,1;h0,1,1,5;");
        part(x, 0, 0, 0, 1);
        part(x, 1, 0, 0, 1);
        part(x, 2, 0, 1, 1);
        part(x, 2, 10, 0, 1);
        part(x, 2, 4, 9, 25);
        part(x, 3, 4, 81, 125);
        part(x, 8, 1, 99999927, 100000000);
        check.due("n -1", x.stuck(0, -1, 0, 0), BAD);
        check.due("n 9", x.stuck(0, 9, 0, 0), BAD);
        check.due("p -1", x.stuck(0, 1, -1, 0), BAD);
        check.due("p 11", x.stuck(0, 1, 11, 0), BAD);
        check.due("what 2", x.stuck(0, 1, 1, 2), BAD);
        check.due("what -1", x.stuck(0, 1, 1, -1), BAD);
        check.due("dish 1", x.stuck(1, 1, 1, 0), BAD);
        x.minutes(2);
        part(x, 0, 5, 1, 1);
        part(x, 8, 10, 1, 1);
        DishLift ice = Check.of("d2,1,1;i0,1,3,10;");
        part(ice, 4, 5, 1, 4);
        DishLift soup = Check.of("d3,2,9;h1,2,2,30;s0,2,9,30;");
        part(soup, 4, 5, 0, 1);
        part(soup, 5, 5, 1, 32);
    }

    private static void drawn() {
        DishLift x = new DishLift();
        check.due("no house", x.drawn(-1, 0, 9), STATE);
        Check.tell(x, "d2,1,1;h0,0,1,9;");
        int[][] due = {{0, 0, 9}, {1, 1, 9}, {2, 1, 47}, {3, 2, 47}, {4, 2, 20}, {5, 3, 20}};
        for (int[] one : due) {
            check.due("anew " + one[0], x.drawn(one[0], 1, 0), one[1]);
            check.due("heat " + one[0], x.drawn(one[0], 1, 1), one[2]);
        }
        Check.tell(x, "d2,1,1;h1,1,1,9;");
        check.due("sent to where it is", x.drawn(3, 1, 0), 2);
        check.due("heat", x.drawn(3, 1, 1), 53);
        check.due("n -1", x.drawn(-1, 1, 0), BAD);
        check.due("n 61", x.drawn(61, 1, 0), BAD);
        check.due("seed 0", x.drawn(1, 0, 0), BAD);
        check.due("seed 1000000", x.drawn(1, 1000000, 0), BAD);
        check.due("what 2", x.drawn(1, 1, 2), BAD);
        check.due("what -1", x.drawn(1, 1, -1), BAD);
    }

    private static void nothingChanges() {
        DishLift x = Check.withRow(TWO, 29, 28);
        x.minutes(1);
        x.ahead(0, 9, 0);
        x.later(9);
        x.when(0);
        x.done();
        x.fine(9);
        x.site(9, 1);
        x.need(9, 0);
        x.need(9, 1);
        x.ranks(9, 0);
        x.holds(2);
        x.share(0, 9);
        x.byTurns(3, 9);
        for (int which = 0; which < 6; which++) {
            x.who(0, which, 0, 0, 2);
        }
        x.stuck(0, 8, 3, 0);
        x.drawn(60, 7, 1);
        check.due("CAR", x.car(1), 1);
        check.due("ROOM, ROPE", x.car(3) * 100 + x.car(4), 109);
        check.due("MINUTE", x.count(3), 1);
        check.due("HEAT", x.count(6), 35);
        check.due("acts", x.count(7), 1);
        check.due("and on", x.minutes(5), 3);
        check.due("CAR", x.car(1), 1);
        check.due("HEAT", x.count(6), 37);
    }
}
