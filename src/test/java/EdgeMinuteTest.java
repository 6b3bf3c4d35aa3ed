/** The edges of a minute, and promises 10, 15 and 16: a method a sentence. */
public final class EdgeMinuteTest {
    private static final int BAD = DishLift.BAD, STATE = DishLift.STATE, FULL = DishLift.FULL;
    private static final int LEAST = Integer.MIN_VALUE, MOST = Integer.MAX_VALUE;
    private static final Check check = new Check();

    public static void main(String[] args) {
        servedForGood();
        letOutWhereTheyAreFor();
        servedWhereTheyWait();
        outAheadOfIn();
        byTheirNumbers();
        fewerThanRoom();
        noMoreThanRope();
        calledButThatOfTheCar();
        calledByThoseInTheCar();
        calledByThoseThatWait();
        upWhileThereIsOneAbove();
        downWhileThereIsOneBelow();
        turnsIfThereIsOneTheOtherWay();
        elseItStays();
        notBeyondTheEnds();
        hotOnes();
        soupsCool();
        soupsSpill();
        roasts();
        coldOnes();
        iceWarms();
        iceMelts();
        servedOnesStayAsTheyAre();
        minuteIsOneMore();
        goodHotOnes();
        goodColdOnes();
        minutesThatMayPass();
        minutesWithoutAHouse();
        minutesAboveTheLast();
        anActEach();
        dishBad();
        dishWithoutAHouse();
        carBad();
        carWithoutAHouse();
        carWithNothingInIt();
        check.end();
    }

    /** FLOOR, WAY, IN THE CAR, SERVED; as many of them as are due. */
    private static void seen(String when, DishLift x, int... due) {
        int[] what = {1, 2, 5, 6};
        String[] name = {"FLOOR", "WAY", "IN", "SERVED"};
        for (int k = 0; k < due.length; k++) {
            check.due(when + ", " + name[k], x.car(what[k]), due[k]);
        }
    }

    private static void servedForGood() {
        check.sentence("A DISH is SERVED (on TO, for good)");
        DishLift x = Check.of("d3,1,9;h0,0,1,30;h2,1,1,30;");
        check.due("served", x.minutes(1), 1);
        x.pull(0);
        check.due("yet so, with THE CAR there again", x.minutes(5), 3);
        check.due("where", x.dish(0, 0), 11);
        check.due("TO", x.dish(0, 1), 0);
    }

    private static void letOutWhereTheyAreFor() {
        check.sentence("1 all IN THE CAR whose TO is its FLOOR are SERVED");
        DishLift x = Check.of("d3,4,40;h0,2,1,30;h0,1,1,30;h0,2,1,30;h0,1,1,30;");
        x.minutes(1);
        seen("all are in", x, 1, 1, 15, 0);
        check.due("those for 1, not those for 2", x.minutes(1), 10);
        check.due("those for 2", x.minutes(1), 15);
    }

    private static void servedWhereTheyWait() {
        check.sentence("those that WAIT on that FLOOR (where THE CAR is) with TO there are SERVED, too");
        DishLift x = Check.of("d2,1,1;h0,0,9,30;h1,1,9,30;h0,0,9,30;h0,1,9,30;");
        check.due("on that FLOOR alone, however heavy, more than ROOM", x.minutes(1), 5);
        seen("none got in, none that calls", x, 0, 1, 0, 5);
        x.pull(1);
        check.due("on the other", x.minutes(1), 7);
    }

    private static void outAheadOfIn() {
        check.sentence("Then, by RANK, each in turn that WAITS there gets IN");
        DishLift x = Check.of("d3,1,5;h0,1,5,30;h1,2,5,30;");
        x.minutes(1);
        x.minutes(1);
        seen("there is room again, and rope", x, 2, 1, 2, 1);
    }

    private static void byTheirNumbers() {
        check.sentence("by RANK (that of DISHES: by their numbers)");
        DishLift x = Check.of("d2,1,9;h1,0,9,30;h0,1,1,30;h0,1,1,30;h0,1,1,30;");
        x.minutes(1);
        seen("the first that waits there", x, 1, 1, 2, 0);
        x.minutes(2);
        seen("then the next", x, 1, 1, 4, 3);
    }

    private static void fewerThanRoom() {
        check.sentence("gets IN, if there are fewer than ROOM IN THE CAR");
        for (int room = 1; room <= 4; room++) {
            DishLift x = Check.of("d2," + room + ",40;h0,1,1,30;h0,1,1,30;h0,1,1,30;h0,1,1,30;h0,1,1,30;");
            x.minutes(1);
            check.due("room " + room, x.car(5), (1 << room) - 1);
        }
        DishLift x = Check.of("d3,4,40;h0,2,1,30;h0,2,1,30;h1,2,1,30;");
        x.minutes(1);
        x.room(1);
        x.minutes(1);
        check.due("fewer ROOM than there are in: none more, none out", x.car(5), 3);
    }

    private static void noMoreThanRope() {
        check.sentence("and WEIGHT of all IN it, with its own, is no more than ROPE");
        for (int rope = 7; rope <= 10; rope++) {
            DishLift x = Check.of("d2,4," + rope + ";h0,1,4,30;h0,1,4,30;h0,1,2,30;");
            x.minutes(1);
            int[] due = {5, 3, 3, 7};
            check.due("rope " + rope, x.car(5), due[rope - 7]);
        }
        DishLift x = Check.of("d2,1,9;h0,1,9,30;");
        x.minutes(1);
        check.due("just as much as ROPE", x.car(8), 9);
        x = Check.of("d2,1,8;h0,1,9,30;");
        x.minutes(1);
        check.due("1 more than ROPE", x.car(5), 0);
        x = Check.of("d2,4,8;h0,1,9,30;h0,1,8,30;");
        x.minutes(1);
        check.due("one that is too heavy keeps none out", x.car(5), 2);
    }

    private static void calledButThatOfTheCar() {
        check.sentence("CALLED are FLOORS, but that of THE CAR");
        DishLift x = Check.of("d3,1,9;h0,1,1,30;h1,0,1,30;h2,0,1,30;");
        check.due("on 0", x.car(7), 6);
        x.pull(1);
        check.due("on 1", x.car(7), 5);
        x.pull(2);
        check.due("on 2", x.car(7), 3);
        x = Check.of("d2,1,9;h0,1,1,30;");
        x.minutes(1);
        check.due("TO of one IN THE CAR, but it is there", x.car(7), 0);
    }

    private static void calledByThoseInTheCar() {
        check.sentence("FLOORS that are TO of one IN THE CAR");
        DishLift x = Check.of("d9,4,40;h0,8,9,30;h0,2,9,30;");
        check.due("FROM of those that wait, not TO", x.car(7), 0);
        x.minutes(1);
        check.due("TO of both", x.car(7), 256 + 4);
        x.rope(1);
        check.due("however heavy they are", x.car(7), 256 + 4);
        x.rope(40);
        x.minutes(2);
        check.due("one is SERVED", x.car(7), 256);
    }

    private static void calledByThoseThatWait() {
        check.sentence("or on which one WAITS whose WEIGHT is no more than ROPE");
        DishLift x = Check.of("d4,1,5;h1,0,5,30;h2,0,6,30;h3,0,4,30;");
        check.due("5 of 5 and 4 of 5, not 6 of 5", x.car(7), 10);
        x.rope(6);
        check.due("rope 6", x.car(7), 14);
        x.rope(4);
        check.due("rope 4", x.car(7), 8);
        x.rope(3);
        check.due("rope 3", x.car(7), 0);
        x = Check.of("d2,1,5;h1,1,1,30;");
        check.due("TO is where it WAITS", x.car(7), 2);
        x.minutes(2);
        x.pull(0);
        check.due("one that is SERVED does not call", x.car(7), 0);
    }

    private static void upWhileThereIsOneAbove() {
        check.sentence("If there is a CALLED one on its WAY (up: above), THE CAR goes one FLOOR on");
        DishLift x = Check.of("d5,1,9;h4,0,1,30;h0,1,1,30;");
        x.pull(3);
        x.minutes(1);
        seen("up, though there is one below", x, 4, 1);
        x = Check.of("d5,1,9;h4,0,1,30;");
        for (int floor = 1; floor <= 4; floor++) {
            x.minutes(1);
            seen("one FLOOR a MINUTE", x, floor, 1);
        }
    }

    private static void downWhileThereIsOneBelow() {
        check.sentence("If there is a CALLED one on its WAY (0 down: below), THE CAR goes one FLOOR on");
        DishLift x = Check.of("d5,1,9;h0,4,1,30;h1,1,1,30;h2,2,1,30;h4,4,1,30;");
        x.pull(3);
        x.minutes(2);
        seen("up to 4, then down", x, 3, 0, 0, 8);
        x.minutes(1);
        seen("on", x, 2, 0);
        x.minutes(2);
        seen("on, down to 0", x, 0, 0, 0, 14);
        x.minutes(1);
        seen("and up again", x, 1, 1, 1, 14);
    }

    private static void turnsIfThereIsOneTheOtherWay() {
        check.sentence("else, if there is one the other way, WAY is the other one and it goes one FLOOR so");
        DishLift x = Check.of("d5,1,9;h0,4,1,30;");
        x.pull(3);
        x.minutes(1);
        seen("up was its WAY, none is above", x, 2, 0);
        x.minutes(2);
        seen("down to 0", x, 0, 0);
        x.minutes(1);
        seen("down was its WAY, none is below", x, 1, 1, 1);
    }

    private static void elseItStays() {
        check.sentence("else it stays");
        DishLift x = Check.of("d3,1,9;h1,1,1,30;h2,1,1,30;");
        x.pull(2);
        x.minutes(2);
        seen("all are SERVED behind these", x, 1, 0, 0, 3);
        x.minutes(9);
        seen("FLOOR and WAY stay", x, 1, 0, 0, 3);
        x = Check.of("d2,1,1;h1,0,2,30;h0,1,2,30;");
        x.minutes(9);
        seen("all are too heavy", x, 0, 1, 0, 0);
        check.due("they cool", x.count(6), 42);
    }

    private static void notBeyondTheEnds() {
        check.sentence("THE CAR goes one FLOOR on: a CALLED one is ahead, so it never leaves the shaft");
        DishLift x = Check.of("d2,1,9;h1,0,1,30;h0,1,1,30;h1,0,1,30;");
        int[] floor = {1, 0, 1, 0, 0, 0};
        int[] way = {1, 0, 1, 0, 0, 0};
        for (int n = 0; n < floor.length; n++) {
            x.minutes(1);
            seen("behind " + (n + 1), x, floor[n], way[n]);
        }
        seen("all", x, 0, 0, 0, 7);
    }

    private static void heats(DishLift x, int dish, int... due) {
        for (int n = 0; n < due.length; n++) {
            check.due("dish " + dish + ", HEAT behind " + n, x.dish(dish, 3), due[n]);
            x.minutes(1);
        }
    }

    private static void weights(DishLift x, int dish, int... due) {
        for (int n = 0; n < due.length; n++) {
            check.due("dish " + dish + ", WEIGHT behind " + n, x.dish(dish, 2), due[n]);
            x.minutes(1);
        }
    }

    private static void hotOnes() {
        check.sentence("of a hot one HEAT is 1 less (0 at least)");
        heats(Check.of("d2,1,1;h0,1,9,2;"), 0, 2, 1, 0, 0, 0);
        heats(Check.of("d2,1,1;h0,1,9,60;"), 0, 60, 59, 58);
        heats(Check.of("d4,1,9;h0,3,9,2;"), 0, 2, 1, 0, 0);
        weights(Check.of("d4,1,9;h0,3,9,2;"), 0, 9, 9, 9, 9, 9);
    }

    private static void soupsCool() {
        check.sentence("of a soup so");
        heats(Check.of("d2,1,1;s0,1,9,2;"), 0, 2, 1, 0, 0, 0);
        heats(Check.of("d4,1,9;s0,3,9,2;"), 0, 2, 1, 0, 0);
    }

    private static void soupsSpill() {
        check.sentence("and WEIGHT is 1 less (1 at least), if it is IN THE CAR, and THE CAR went in 2");
        weights(Check.of("d9,1,9;s0,8,3,60;"), 0, 3, 2, 1, 1, 1);
        weights(Check.of("d9,1,9;h0,8,3,60;s0,8,3,60;"), 1, 3, 3, 3, 3);
        weights(Check.of("d2,1,1;s0,1,9,60;"), 0, 9, 9, 9);
        DishLift x = Check.of("d3,1,9;s0,2,9,60;");
        x.minutes(1);
        x.pull(2);
        check.due("pulled by hand", x.dish(0, 2), 8);
        x.minutes(1);
        check.due("SERVED ahead of it", x.dish(0, 2), 8);
        x = Check.of("d4,2,9;s0,2,4,60;s2,1,4,60;h3,0,9,60;");
        x.minutes(3);
        check.due("one was let out, one got in, and THE CAR went", x.dish(0, 2) * 10 + x.dish(1, 2), 23);
        x = Check.of("d3,1,9;s0,1,4,60;");
        x.minutes(1);
        check.due("it spilled once", x.dish(0, 2), 3);
        x.minutes(4);
        check.due("and not where it is SERVED", x.dish(0, 2), 3);
    }

    private static void roasts() {
        check.sentence("of a roast HEAT as of a hot one, but in odd MINUTES alone");
        heats(Check.of("d2,1,1;r0,1,9,2;"), 0, 2, 2, 1, 1, 0, 0, 0, 0);
        DishLift x = Check.of("d2,1,1;r0,1,9,60;");
        x.minutes(1);
        heats(x, 0, 60, 59, 59, 58);
        x.undo();
        x.undo();
        heats(x, 0, 59, 58);
        check.due("WEIGHT", x.dish(0, 2), 9);
    }

    private static void coldOnes() {
        check.sentence("of a cold one HEAT is 1 more (60 at most)");
        heats(Check.of("d2,1,1;c0,1,9,58;"), 0, 58, 59, 60, 60, 60);
        heats(Check.of("d2,1,1;c0,1,9,0;"), 0, 0, 1, 2);
        weights(Check.of("d2,1,1;c0,1,9,30;"), 0, 9, 9, 9);
    }

    private static void iceWarms() {
        check.sentence("of ice so");
        heats(Check.of("d2,1,1;i0,1,9,58;"), 0, 58, 59, 60, 60, 60);
        heats(Check.of("d2,1,1;i0,1,9,0;"), 0, 0, 1, 2);
    }

    private static void iceMelts() {
        check.sentence("and WEIGHT is 1 less (1 at least), if HEAT is then 10 or more");
        weights(Check.of("d2,1,1;i1,0,4,7;"), 0, 4, 4, 4, 3, 2);
        weights(Check.of("d2,1,1;i1,0,9,8;"), 0, 9, 9, 8, 7);
        weights(Check.of("d2,1,1;i1,0,9,9;"), 0, 9, 8, 7);
        weights(Check.of("d2,1,1;i1,0,9,60;"), 0, 9, 8, 7, 6, 5, 4, 3, 2, 1);
        weights(Check.of("d9,1,9;i0,8,3,10;"), 0, 3, 2, 1, 1, 1);
        DishLift x = Check.of("d2,1,1;i1,0,2,9;");
        x.minutes(1);
        check.due("it calls, when it is light enough", x.car(7), 2);
        check.due("THE CAR stays till then", x.car(1), 0);
    }

    private static void servedOnesStayAsTheyAre() {
        check.sentence("3 each DISH that is not SERVED");
        DishLift x = Check.of("d2,1,1;h0,0,9,30;s0,0,9,30;r0,0,9,30;c0,0,9,30;i0,0,9,30;h1,0,9,30;");
        check.due("all but one", x.minutes(24), 31);
        for (int d = 0; d < 5; d++) {
            check.due("HEAT of " + d, x.dish(d, 3), 30);
            check.due("WEIGHT of " + d, x.dish(d, 2), 9);
        }
        check.due("the one that is not", x.dish(5, 3), 6);
    }

    private static void minuteIsOneMore() {
        check.sentence("MINUTE is 1 more");
        DishLift x = Check.of("d2,1,1;h0,0,1,1;");
        for (int n = 0; n < 3; n++) {
            check.due("MINUTE", x.count(3), n);
            x.minutes(1);
        }
        x.minutes(24);
        check.due("MINUTE", x.count(3), 27);
    }

    private static void goodHotOnes() {
        check.sentence("GOOD: a hot one (soup, roast, too) with HEAT 20 or more");
        for (char sort : "hsr".toCharArray()) {
            for (int heat : new int[] {0, 10, 11, 19, 20, 21, 60}) {
                DishLift x = Check.of("d2,1,1;" + sort + "0,0,1," + heat + ";");
                check.due(sort + " " + heat, x.dish(0, 4), heat >= 20 ? 1 : 0);
                check.due(sort + " " + heat + ", SERVED", x.minutes(1) * 10 + x.dish(0, 4), heat >= 20 ? 11 : 10);
                check.due(sort + " " + heat + ", fine", x.fine(0), heat >= 20 ? 1 : 0);
            }
        }
    }

    private static void goodColdOnes() {
        check.sentence("GOOD: a cold one (ice, too) with HEAT 10 or less");
        for (char sort : "ci".toCharArray()) {
            for (int heat : new int[] {0, 9, 10, 11, 19, 20, 60}) {
                DishLift x = Check.of("d2,1,1;" + sort + "0,0,1," + heat + ";");
                check.due(sort + " " + heat, x.dish(0, 4), heat <= 10 ? 1 : 0);
                check.due(sort + " " + heat + ", SERVED", x.minutes(1) * 10 + x.dish(0, 4), heat <= 10 ? 11 : 10);
                check.due(sort + " " + heat + ", fine", x.fine(0), heat <= 10 ? 1 : 0);
            }
        }
    }

    private static void minutesThatMayPass() {
        check.sentence("n MINUTES (1 to 24): which are SERVED then (bits). BAD");
        DishLift x = Check.of("d2,1,9;h0,0,1,60;h0,1,1,60;");
        for (int n : new int[] {0, -1, 25, LEAST, MOST}) {
            check.due("n " + n, x.minutes(n), BAD);
        }
        check.due("MINUTE", x.count(3), 0);
        check.due("1", x.minutes(1), 1);
        check.due("24", x.minutes(24), 3);
        check.due("MINUTE", x.count(3), 25);
    }

    private static void minutesWithoutAHouse() {
        check.sentence("minutes. STATE: no HOUSE (ahead of BAD)");
        DishLift x = new DishLift();
        for (int n : new int[] {0, 1, 24, 25, LEAST, MOST}) {
            check.due("n " + n, x.minutes(n), STATE);
        }
        check.due("MINUTE", x.count(3), 0);
    }

    private static void minutesAboveTheLast() {
        check.sentence("minutes. FULL: MINUTE would be above 999");
        DishLift x = Check.of("d2,1,9;h0,0,1,60;");
        for (int k = 0; k < 41; k++) {
            x.minutes(24);
        }
        check.due("MINUTE", x.count(3), 984);
        for (int n = 16; n <= 24; n++) {
            check.due("n " + n, x.minutes(n), FULL);
        }
        check.due("nothing passed", x.count(3), 984);
        check.due("BAD ahead of FULL", x.minutes(25), BAD);
        check.due("just 999", x.minutes(15), 1);
        check.due("MINUTE", x.count(3), 999);
        check.due("1000", x.minutes(1), FULL);
        check.due("BAD ahead of FULL", x.minutes(0), BAD);
        check.due("other ACTS go on", x.pull(1), 0);
        check.due("what is foretold, too", x.later(60), 1);
        x.undo();
        x.undo();
        check.due("behind undo there is one again", x.minutes(2), FULL);
        check.due("behind undo there is one again", x.minutes(1), 1);
        Check.tell(x, "d2,1,9;h0,0,1,60;");
        check.due("a new HOUSE begins anew", x.minutes(24), 1);
    }

    private static void anActEach() {
        check.sentence("n MINUTES, an ACT each");
        DishLift x = Check.of("d9,1,9;h0,8,1,60;");
        x.minutes(5);
        check.due("ACTS", x.count(7), 5);
        check.due("undo", x.undo(), 4);
        check.due("MINUTE", x.count(3), 4);
        check.due("FLOOR", x.car(1), 4);
    }

    private static void dishBad() {
        check.sentence("Of a DISH: 0 .. 4. BAD");
        DishLift x = Check.of("d4,1,9;h1,3,2,30;c2,0,4,5;");
        int[] due = {2, 0, 4, 5, 1};
        for (int what = 0; what <= 4; what++) {
            check.due("what " + what, x.dish(1, what), due[what]);
            for (int dish : new int[] {-1, 2, 5, 6, LEAST, MOST}) {
                check.due("dish " + dish, x.dish(dish, what), BAD);
            }
        }
        for (int what : new int[] {-1, 5, LEAST, MOST}) {
            check.due("what " + what, x.dish(0, what), BAD);
        }
    }

    private static void dishWithoutAHouse() {
        check.sentence("dish. BAD (there is no such thing)");
        DishLift x = new DishLift();
        for (int dish : new int[] {-1, 0, 5, 6}) {
            check.due("no HOUSE, dish " + dish, x.dish(dish, 0), BAD);
        }
    }

    private static void carBad() {
        check.sentence("car: 0 .. 8. BAD");
        DishLift x = Check.of("d4,2,9;h0,3,2,30;c0,1,4,5;");
        x.minutes(1);
        int[] due = {4, 1, 1, 2, 9, 3, 0, 8, 6};
        for (int what = 0; what <= 8; what++) {
            check.due("what " + what, x.car(what), due[what]);
        }
        for (int what : new int[] {-1, 9, LEAST, MOST}) {
            check.due("what " + what, x.car(what), BAD);
        }
    }

    private static void carWithoutAHouse() {
        check.sentence("car. STATE: no HOUSE (ahead of BAD)");
        DishLift x = new DishLift();
        for (int what : new int[] {-1, 0, 8, 9, LEAST, MOST}) {
            check.due("what " + what, x.car(what), STATE);
        }
    }

    private static void carWithNothingInIt() {
        check.sentence("car: 5 which are IN THE CAR (bits), 6 which are SERVED, 7 CALLED FLOORS (bits), 8 WEIGHT of all IN THE CAR");
        DishLift x = Check.of("d9,4,40;h0,8,9,30;h0,8,9,30;h0,8,9,30;h0,8,9,30;h0,0,9,30;h8,0,9,30;");
        check.due("none in", x.car(5), 0);
        check.due("no WEIGHT", x.car(8), 0);
        check.due("none served", x.car(6), 0);
        check.due("the highest FLOOR calls", x.car(7), 256);
        x.minutes(1);
        check.due("four in", x.car(5), 15);
        check.due("most WEIGHT", x.car(8), 36);
        check.due("one served", x.car(6), 16);
        x.minutes(24);
        check.due("all served", x.car(6), 63);
        check.due("none calls", x.car(7), 0);
        check.due("none in", x.car(5), 0);
    }
}
