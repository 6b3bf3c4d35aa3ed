/** Promises 1 (a new object) and 6 to 8 (feed, house, fault). */
public final class TapeTest {
    private static final Check check = new Check();
    private static final String LAW = "d3,2,9;";
    private static final String DISH = "h0,1,2,30;";

    public static void main(String[] args) {
        fresh();
        feeds();
        reads();
        misplaced();
        wrongNumbers();
        tooMany();
        faultStays();
        readAnew();
        check.end();
    }

    private static void fresh() {
        DishLift x = new DishLift();
        for (int what = 0; what <= 8; what++) {
            check.due("count " + what, x.count(what), 0);
        }
        check.due("count -1", x.count(-1), DishLift.BAD);
        check.due("count 9", x.count(9), DishLift.BAD);
        check.due("fault", x.fault(), 0);
        check.due("status", x.status(), 0);
        check.due("trace", x.trace(0), DishLift.NONE);
        check.due("car", x.car(99), DishLift.STATE);
        check.due("pull", x.pull(0), DishLift.BAD);
    }

    private static void feeds() {
        DishLift x = new DishLift();
        check.due("feed -1", x.feed(-1), DishLift.BAD);
        check.due("feed 256", x.feed(256), DishLift.BAD);
        check.due("count", x.count(8), 0);
        for (int i = 0; i < 110; i++) {
            check.due("feed " + i, x.feed(i == 0 ? 0 : 255), i + 1);
        }
        check.due("feed one more", x.feed(100), DishLift.FULL);
        check.due("BAD ahead of FULL", x.feed(256), DishLift.BAD);
        check.due("count", x.count(8), 110);
        check.due("house", x.house(), -1000100);
        check.due("count", x.count(8), 0);
        check.due("feed anew", x.feed(100), 1);
    }

    private static void reads() {
        DishLift x = new DishLift();
        check.due("one", Check.tell(x, "d2,1,1;h0,1,1,0;"), 1);
        check.due("most", Check.tell(x, "d9,4,40;h8,8,9,60;s0,0,1,0;r1,2,3,4;c4,3,2,1;i7,6,5,4;h0,8,1,60;"), 6);
        check.due("FLOORS", x.car(0), 9);
        check.due("ROOM", x.car(3), 4);
        check.due("ROPE", x.car(4), 40);
        check.due("WAY", x.car(2), 1);
        int[][] due = {{8, 8, 9, 60, 1}, {0, 0, 1, 0, 2}, {1, 2, 3, 4, 3}, {4, 3, 2, 1, 4}, {7, 6, 5, 4, 5}, {0, 8, 1, 60, 1}};
        for (int d = 0; d < 6; d++) {
            for (int what = 0; what < 4; what++) {
                check.due("dish " + d + " " + what, x.dish(d, what), due[d][what]);
            }
            check.due("kind " + d, x.kind(d), due[d][4]);
        }
        check.due("two figures for one", Check.tell(x, "d02,01,09;c00,01,05,07;"), 1);
        check.due("FLOORS", x.count(2), 2);
        check.due("HEAT", x.count(6), 7);
    }

    private static void faulty(String text, int place, int number) {
        DishLift x = Check.of("d5,2,9;r0,1,2,33;");
        x.pull(3);
        check.due(text, Check.tell(x, text), -1000100 - place);
        check.due(text + " fault", x.fault(), number);
        check.due(text + " tape", x.count(8), 0);
        check.due(text + " all stays", x.count(2) * 100 + x.count(6), 533);
        check.due(text + " acts stay", x.undo(), 0);
    }

    private static void misplaced() {
        faulty("", 0, 1);
        faulty("d", 1, 1);
        faulty("x", 0, 1);
        faulty("D3,2,9;", 0, 1);
        faulty("3", 0, 1);
        faulty(" d3", 0, 1);
        faulty("dd", 1, 1);
        faulty("d,", 1, 1);
        faulty("d;", 1, 1);
        faulty("d3", 2, 1);
        faulty("d3;", 2, 1);
        faulty("d333,2,9;", 1, 1);
        faulty("d3333", 1, 1);
        faulty("d003,", 1, 1);
        faulty("d3,2,9", 6, 1);
        faulty("d3,2,9,", 6, 1);
        faulty(LAW, 7, 1);
        faulty(LAW + "d", 7, 1);
        faulty(LAW + ";", 7, 1);
        faulty(LAW + "7", 7, 1);
        faulty(LAW + "h", 8, 1);
        faulty(LAW + "h0,1,2,300;", 14, 1);
        faulty(LAW + "h0,1,2,30", 16, 1);
        faulty(LAW + "h0,1,2,30,", 16, 1);
        faulty(LAW + "h0 ,1,2,30;", 9, 1);
        faulty(LAW + DISH + "x", 17, 1);
        faulty(LAW + DISH + ",", 17, 1);
        faulty(LAW + DISH + (char) 200, 17, 1);
        faulty(LAW + DISH + DISH + "h0,1,2", 33, 1);
    }

    private static void wrongNumbers() {
        faulty("d1,2,9;", 1, 2);
        faulty("d10,2,9;", 1, 2);
        faulty("d1x", 1, 2);
        faulty("d3,0,9;", 3, 2);
        faulty("d3,5,9;", 3, 2);
        faulty("d3,2,0;", 5, 2);
        faulty("d3,2,41;", 5, 2);
        faulty(LAW + "h3,1,2,30;", 8, 2);
        faulty(LAW + "h0,3,2,30;", 10, 2);
        faulty(LAW + "h0,99,2,30;", 10, 2);
        faulty(LAW + "h0,1,0,30;", 12, 2);
        faulty(LAW + "h0,1,10,30;", 12, 2);
        faulty(LAW + "h0,1,2,61;", 14, 2);
        faulty(LAW + "h0,1,2,61", 14, 2);
        faulty(LAW + DISH + "c0,2,9,60;i0,3,1,1;", 30, 2);
    }

    private static void tooMany() {
        String six = LAW + DISH + DISH + DISH + DISH + DISH + DISH;
        DishLift x = new DishLift();
        check.due("six", Check.tell(x, six), 6);
        faulty(six + DISH, 67, 3);
        faulty(six + "i", 67, 3);
        faulty(six + "s9", 67, 3);
        faulty(six + "d", 67, 1);
        faulty(six + ";", 67, 1);
        faulty(LAW + DISH + DISH + DISH + DISH + DISH + "h0,1,0,30;h", 62, 2);
    }

    private static void faultStays() {
        DishLift x = new DishLift();
        Check.tell(x, "d1,");
        check.due("fault", x.fault(), 2);
        Check.tell(x, LAW + DISH);
        check.due("fault, behind a text without", x.fault(), 2);
        x.house();
        check.due("fault, the latest", x.fault(), 1);
    }

    private static void readAnew() {
        DishLift x = Check.of("d4,2,9;h0,3,2,30;c2,1,1,5;");
        x.minutes(3);
        x.room(4);
        x.ask(0, 0);
        check.due("acts", x.count(7), 4);
        check.due("another", Check.tell(x, "d3,1,7;i1,2,3,4;"), 1);
        check.due("MINUTE", x.count(3), 0);
        check.due("DISHES", x.count(1), 1);
        check.due("acts", x.count(7), 0);
        check.due("undo", x.undo(), DishLift.STATE);
        check.due("CAR", x.car(1), 0);
        check.due("WAY", x.car(2), 1);
        check.due("no such dish", x.dish(1, 0), DishLift.BAD);
        check.due("where", x.dish(0, 0), 1);
        check.due("trace stays", x.trace(0), 11);
    }
}
