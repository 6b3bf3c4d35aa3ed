/** The edges of what is asked, promises 33 to 37: a method a sentence. */
public final class EdgeAskedTest {
    private static final int BAD = DishLift.BAD, NONE = DishLift.NONE, KIND = -1000013;
    private static final int LEAST = Integer.MIN_VALUE, MOST = Integer.MAX_VALUE;
    private static final Check check = new Check();
    private static final String ALL = "d9,1,40;h0,1,2,30;s0,1,3,31;r0,1,4,32;c0,1,5,33;i0,1,6,34;";

    public static void main(String[] args) {
        kindsAsTold();
        kindBad();
        asEachOfItsKinds();
        asBad();
        asFoundIsKind();
        askBad();
        askWithoutAHouse();
        traceIsEmptyAheadOfIt();
        traceStaysIfRefused();
        traceAtFirst();
        traceEnds();
        bodyOfTheNearestKind();
        askedAnew();
        askedAtTheEnds();
        countBad();
        countRows();
        countDishesAndFloors();
        countMinute();
        countWaitAndServed();
        countHeat();
        countActs();
        countBytes();
        check.end();
    }

    private static void kindsAsTold() {
        check.sentence("The KIND of a DISH, as told (1 to 5)");
        DishLift x = Check.of(ALL);
        for (int d = 0; d < 5; d++) {
            check.due("kind " + d, x.kind(d), d + 1);
        }
        x.minutes(24);
        for (int d = 0; d < 5; d++) {
            check.due("kind " + d + ", whatever becomes of it", x.kind(d), d + 1);
        }
    }

    private static void kindBad() {
        check.sentence("kind. BAD");
        DishLift x = new DishLift();
        check.due("no HOUSE", x.kind(0), BAD);
        Check.tell(x, ALL);
        for (int one : new int[] {-1, 5, 6, LEAST, MOST}) {
            check.due("kind " + one, x.kind(one), BAD);
        }
    }

    private static void asEachOfItsKinds() {
        check.sentence("A DISH is taken as one of a KIND (0 .. 5): its number");
        DishLift x = Check.of(ALL);
        int[] is = {0b000011, 0b000111, 0b001011, 0b010001, 0b110001};
        for (int d = 0; d < 5; d++) {
            for (int kind = 0; kind <= 5; kind++) {
                boolean so = (is[d] >> kind & 1) == 1;
                check.due(d + " as " + kind, x.as(d, kind), so ? d : KIND);
                check.due(d + " as " + kind + ", status", x.status(), so ? 0 : 3);
            }
        }
    }

    private static void asBad() {
        check.sentence("as. BAD");
        DishLift x = new DishLift();
        check.due("no HOUSE", x.as(0, 0), BAD);
        Check.tell(x, ALL);
        for (int one : new int[] {-1, 5, 6, LEAST, MOST}) {
            check.due("one " + one, x.as(one, 0), BAD);
        }
        for (int kind : new int[] {-1, 6, LEAST, MOST}) {
            check.due("kind " + kind, x.as(0, kind), BAD);
        }
        check.due("no finding", x.status(), 0);
    }

    private static void asFoundIsKind() {
        check.sentence("as. KIND: it is no such one");
        DishLift x = Check.of(ALL);
        check.due("a hot one as a soup", x.as(0, 2), -1000010 - 3);
        check.due("status", x.status(), 3);
        check.due("what is found changes nothing", x.kind(0), 1);
        check.due("what is taken changes nothing", x.as(1, 1) * 10 + x.kind(1), 12);
    }

    private static void asked(DishLift x, int one, int what, int due, int... bodies) {
        String call = "ask " + one + ", " + what;
        check.due(call, x.ask(one, what), due);
        for (int i = 0; i < bodies.length; i++) {
            check.due(call + ", trace " + i, x.trace(i), bodies[i]);
        }
        check.due(call + ", trace ends", x.trace(bodies.length), NONE);
    }

    private static void askBad() {
        check.sentence("An ASK (0, 1) of a DISH. BAD");
        DishLift x = Check.of(ALL);
        for (int one : new int[] {-1, 5, 6, LEAST, MOST}) {
            check.due("one " + one, x.ask(one, 0), BAD);
        }
        for (int what : new int[] {-1, 2, LEAST, MOST}) {
            check.due("what " + what, x.ask(0, what), BAD);
        }
        check.due("what 0", x.ask(3, 0), -95);
        check.due("what 1", x.ask(3, 1), 98);
    }

    private static void askWithoutAHouse() {
        check.sentence("ask. BAD (there is no such thing)");
        DishLift x = new DishLift();
        check.due("no HOUSE, SIZE", x.ask(0, 0), BAD);
        check.due("no HOUSE, MARK", x.ask(0, 1), BAD);
    }

    private static void traceIsEmptyAheadOfIt() {
        check.sentence("ask. THE TRACE is empty ahead of it");
        DishLift x = Check.of(ALL);
        asked(x, 1, 0, -67, 12, 11, 10, 24, 21, 20);
        asked(x, 3, 0, -95, 13, 10);
        for (int i = 2; i <= 6; i++) {
            check.due("nothing of the one before, trace " + i, x.trace(i), NONE);
        }
    }

    private static void traceStaysIfRefused() {
        check.sentence("What is refused changes nothing (THE TRACE)");
        DishLift x = Check.of(ALL);
        x.ask(3, 0);
        x.ask(5, 0);
        x.ask(3, 2);
        x.ask(-1, -1);
        check.due("trace 0", x.trace(0), 13);
        check.due("trace 1", x.trace(1), 10);
        check.due("trace 2", x.trace(2), NONE);
    }

    private static void traceAtFirst() {
        check.sentence("Number i of THE TRACE; NONE");
        DishLift x = new DishLift();
        for (int i : new int[] {-1, 0, 15, 16, LEAST, MOST}) {
            check.due("trace " + i + " at first", x.trace(i), NONE);
        }
    }

    private static void traceEnds() {
        check.sentence("Number i of THE TRACE (the first 16); NONE");
        DishLift x = Check.of(ALL);
        x.ask(1, 0);
        check.due("the first", x.trace(0), 12);
        check.due("the last", x.trace(5), 20);
        for (int i : new int[] {-1, 6, 7, 15, 16, 17, LEAST, MOST}) {
            check.due("trace " + i, x.trace(i), NONE);
        }
        Check.tell(x, "d2,1,1;h0,1,1,1;");
        check.due("another HOUSE", x.trace(0), 12);
    }

    private static void bodyOfTheNearestKind() {
        check.sentence("Of an ask the BODY told for the KIND begins, else that of the nearest KIND that it is, too, "
            + "else the one that is lent");
        DishLift x = Check.of(ALL);
        int[][] first = {{11, 21}, {12, 24}, {11, 22}, {13, 23}, {14, 23}};
        for (int d = 0; d < 5; d++) {
            for (int what = 0; what <= 1; what++) {
                x.ask(d, what);
                check.due("of " + d + ", " + what, x.trace(0), first[d][what]);
            }
        }
    }

    private static void askedAnew() {
        check.sentence("SIZE, MARK within others are asked of the same DISH anew");
        DishLift x = Check.of(ALL);
        asked(x, 0, 0, 2 + 30, 11, 10, 21, 20);
        asked(x, 1, 0, -(3 + 2 * (1 + 31)), 12, 11, 10, 24, 21, 20);
        asked(x, 2, 0, 4 + (2 + 32) - 1000, 11, 10, 22, 21, 20);
        asked(x, 3, 1, 3 - (5 - 100), 23, 20, 13, 10);
        asked(x, 4, 1, 4 - 2 * (6 - 100), 23, 20, 14, 13, 10);
    }

    private static void askedAtTheEnds() {
        check.sentence("ASKS of DISHES (least and most of what they are made of)");
        DishLift x = Check.of("d2,1,1;s0,1,1,0;s0,1,9,60;r0,1,1,0;r0,1,9,60;i0,1,1,0;i0,1,9,60;");
        asked(x, 0, 0, -1, 12, 11, 10, 24, 21, 20);
        asked(x, 0, 1, 0, 24, 21, 20);
        asked(x, 1, 0, -131, 12, 11, 10, 24, 21, 20);
        asked(x, 2, 1, -998, 22, 21, 20);
        asked(x, 3, 0, 9 + 63 - 1000, 11, 10, 22, 21, 20);
        asked(x, 4, 0, -198, 14, 13, 10);
        asked(x, 5, 1, 5 + 182, 23, 20, 14, 13, 10);
        x.minutes(1);
        asked(x, 5, 0, -184, 14, 13, 10);
    }

    private static void countBad() {
        check.sentence("How many: 0 .. 8. BAD");
        DishLift x = new DishLift();
        for (int what : new int[] {-1, 9, LEAST, MOST}) {
            check.due("no HOUSE, count " + what, x.count(what), BAD);
        }
        for (int what = 0; what <= 8; what++) {
            check.due("no HOUSE, count " + what, x.count(what), 0);
        }
        Check.tell(x, ALL);
        for (int what : new int[] {-1, 9, LEAST, MOST}) {
            check.due("count " + what, x.count(what), BAD);
        }
    }

    private static void countRows() {
        check.sentence("0 ROWS");
        DishLift x = new DishLift();
        for (int row = 0; row < 8; row++) {
            x.row(row, 0, 0);
            check.due("begun", x.count(0), row + 1);
        }
        x.row(0, 2, 9);
        check.due("one in place of one", x.count(0), 8);
        x.row(0, 0, -1);
        check.due("one that was found", x.count(0), 8);
        x.drop(4);
        check.due("dropped", x.count(0), 7);
        Check.tell(x, ALL);
        check.due("they stay, whatever HOUSE there is", x.count(0), 7);
    }

    private static void countDishesAndFloors() {
        check.sentence("1 DISHES, 2 FLOORS");
        DishLift x = Check.of(ALL);
        check.due("DISHES", x.count(1), 5);
        check.due("FLOORS", x.count(2), 9);
        Check.tell(x, "d2,1,1;h0,1,1,1;");
        check.due("DISHES", x.count(1), 1);
        check.due("FLOORS", x.count(2), 2);
    }

    private static void countMinute() {
        check.sentence("3 MINUTE");
        DishLift x = Check.of(ALL);
        check.due("at first", x.count(3), 0);
        x.minutes(24);
        check.due("behind 24", x.count(3), 24);
        x.pull(5);
        check.due("a pull takes none", x.count(3), 24);
    }

    private static void countWaitAndServed() {
        check.sentence("4 how many WAIT, 5 how many are SERVED");
        DishLift x = Check.of("d4,1,9;h0,3,2,30;c2,1,1,5;i0,0,9,9;");
        int[][] due = {{3, 0}, {1, 1}, {1, 1}, {1, 1}, {1, 2}, {0, 2}, {0, 3}};
        for (int n = 0; n < due.length; n++) {
            check.due("WAIT behind " + n, x.count(4), due[n][0]);
            check.due("SERVED behind " + n, x.count(5), due[n][1]);
            x.minutes(1);
        }
        x.send(2, 1, 9);
        check.due("WAIT, one is sent back", x.count(4), 1);
        check.due("SERVED, one is sent back", x.count(5), 2);
    }

    private static void countHeat() {
        check.sentence("6 HEAT of all together");
        DishLift x = Check.of("d2,1,1;h0,0,1,60;h0,0,1,60;h0,0,1,60;h0,0,1,60;h0,0,1,60;h0,0,1,60;");
        check.due("most", x.count(6), 360);
        x.minutes(1);
        check.due("of those that are SERVED, too", x.count(6), 360);
        Check.tell(x, "d2,1,1;h0,0,1,0;");
        check.due("least", x.count(6), 0);
    }

    private static void countActs() {
        check.sentence("7 ACTS that can be undone");
        DishLift x = Check.of(ALL);
        check.due("none", x.count(7), 0);
        x.minutes(24);
        check.due("most", x.count(7), 24);
        x.pull(8);
        check.due("most", x.count(7), 24);
        x.undo();
        check.due("one less", x.count(7), 23);
    }

    private static void countBytes() {
        check.sentence("8 bytes on the tape");
        DishLift x = Check.of(ALL);
        check.due("it has been read", x.count(8), 0);
        for (int n = 1; n <= 110; n++) {
            x.feed('x');
            check.due("fed", x.count(8), n);
        }
        x.feed('x');
        check.due("full", x.count(8), 110);
    }
}
