/** The edges of what is foretold, promises 17 to 30: a method a sentence. */
public final class EdgeForetoldTest {
    private static final int BAD = DishLift.BAD, STATE = DishLift.STATE, NONE = DishLift.NONE;
    private static final int NULL = -1000011, PLACE = -1000012;
    private static final int LEAST = Integer.MIN_VALUE, MOST = Integer.MAX_VALUE;
    private static final int[] NOT_0_TO_60 = {-1, 61, LEAST, MOST}, NOT_1_TO_40 = {0, -1, 41, LEAST, MOST};
    private static final int[] NOT_0_TO_1 = {-1, 2, LEAST, MOST};
    private static final Check check = new Check();
    /** The hot one is served behind 4 minutes with 27, the cold one behind 6 with 10. */
    private static final String TWO = "d4,1,9;h0,3,2,30;c2,1,1,5;";
    /** Room for one, trips there and back: the last one is served behind 60 minutes, or behind 61. */
    private static final String SIXTY = "d9,1,9;h0,8,1,1;h0,8,1,1;h0,8,1,1;h0,3,1,1;h0,5,1,1;";
    private static final String SIXTY_ONE = "d9,1,9;h0,8,1,1;h0,8,1,1;h0,8,1,1;h0,3,1,1;h0,6,1,1;";

    public static void main(String[] args) {
        aheadFromNoneToSixty();
        aheadBad();
        laterFromNoneToSixty();
        laterBad();
        whenFromNoneToSixty();
        whenBad();
        doneFromNoneToSixty();
        doneWithoutAHouse();
        fineFromNoneToSixty();
        fineServedAndGood();
        fineBad();
        siteOfSeveralTheLeast();
        siteOnFloorsAlone();
        siteFromOneToForty();
        siteServedAndGood();
        siteBad();
        needRoomFromOneToFour();
        needRope();
        needNone();
        needFromOneToForty();
        needBad();
        ranksNAndOneForOneThatIsNot();
        ranksZeroForOneThatIsNow();
        ranksOfSeveralTheFirst();
        ranksOfSix();
        ranksFromNowOn();
        ranksNotSoMany();
        ranksBad();
        holdsTheEmptyOne();
        holdsRoom();
        holdsRope();
        holdsMostWeightMostDishesLeastBits();
        holdsBad();
        shareCut();
        shareOver();
        shareNone();
        shareBad();
        turnsFromNoneToFour();
        turnsNotBeyondTheEnds();
        turnsMinutes();
        turnsBad();
        whoKinds();
        whoFloors();
        whoHeats();
        whoRopes();
        whoNone();
        whoFromOneToTwelve();
        whoPlace();
        whoBad();
        stuckFractions();
        stuckFromNoneToEight();
        stuckCases();
        stuckLeavesTheThirdStep();
        stuckBad();
        drawnFromNoneToSixty();
        drawnSeeds();
        drawnSentBack();
        drawnPulled();
        drawnBad();
        check.end();
    }

    private static void aheadFromNoneToSixty() {
        check.sentence("AHEAD by n MINUTES (0 to 60) of a DISH: where it is; HEAT; WEIGHT");
        DishLift x = Check.of("d9,1,9;s0,8,9,60;i8,0,9,0;r8,0,9,60;");
        check.due("now, where", x.ahead(0, 0, 0), 0);
        check.due("now, HEAT", x.ahead(0, 0, 1), 60);
        check.due("now, WEIGHT", x.ahead(0, 0, 2), 9);
        check.due("it WAITS on", x.ahead(1, 8, 0), 8);
        check.due("behind 8, IN THE CAR", x.ahead(0, 8, 0), 10);
        check.due("behind 8, WEIGHT", x.ahead(0, 8, 2), 1);
        check.due("behind 9, SERVED", x.ahead(0, 9, 0), 11);
        check.due("behind 60, HEAT", x.ahead(0, 60, 1), 52);
        x = Check.of("d2,1,1;h0,1,9,60;r0,1,9,60;c0,1,9,0;i0,1,9,0;");
        check.due("hot behind 59", x.ahead(0, 59, 1), 1);
        check.due("hot behind 60", x.ahead(0, 60, 1), 0);
        check.due("roast behind 1", x.ahead(1, 1, 1), 60);
        check.due("roast behind 60", x.ahead(1, 60, 1), 30);
        check.due("cold behind 60", x.ahead(2, 60, 1), 60);
        x.minutes(1);
        check.due("roast, from an odd MINUTE on", x.ahead(1, 1, 1), 59);
    }

    private static void aheadBad() {
        check.sentence("ahead. BAD");
        check.due("no HOUSE", new DishLift().ahead(0, 0, 0), BAD);
        DishLift x = Check.of(TWO);
        for (int dish : new int[] {-1, 2, 6, LEAST, MOST}) {
            check.due("dish " + dish, x.ahead(dish, 0, 0), BAD);
        }
        for (int n : NOT_0_TO_60) {
            check.due("n " + n, x.ahead(0, n, 0), BAD);
        }
        for (int what : new int[] {-1, 3, LEAST, MOST}) {
            check.due("what " + what, x.ahead(0, 0, what), BAD);
        }
    }

    private static void laterFromNoneToSixty() {
        check.sentence("CAR behind n MINUTES (0 to 60): its FLOOR");
        DishLift x = Check.of(TWO);
        x.pull(3);
        check.due("behind 0", x.later(0), 3);
        check.due("behind 1", x.later(1), 2);
        x = Check.of(SIXTY);
        check.due("behind 59", x.later(59), 5);
        check.due("behind 60", x.later(60), 5);
        x = Check.of(SIXTY_ONE);
        check.due("behind 59", x.later(59), 5);
        check.due("behind 60", x.later(60), 6);
    }

    private static void laterBad() {
        check.sentence("later. BAD; STATE: no HOUSE (ahead of BAD)");
        DishLift x = new DishLift();
        check.due("no HOUSE", x.later(0), STATE);
        for (int n : NOT_0_TO_60) {
            check.due("no HOUSE, n " + n, x.later(n), STATE);
        }
        Check.tell(x, TWO);
        for (int n : NOT_0_TO_60) {
            check.due("n " + n, x.later(n), BAD);
        }
    }

    private static void whenFromNoneToSixty() {
        check.sentence("WHEN a DISH is SERVED: behind how many MINUTES (0 to 60) first; NONE");
        DishLift x = Check.of("d2,1,9;h0,0,1,9;h0,1,1,9;");
        check.due("behind 1", x.when(0), 1);
        check.due("behind 2", x.when(1), 2);
        x.minutes(1);
        check.due("now", x.when(0), 0);
        check.due("behind 60", Check.of(SIXTY).when(4), 60);
        x = Check.of(SIXTY_ONE);
        check.due("behind 61", x.when(4), NONE);
        x.minutes(1);
        check.due("behind 60, a MINUTE on", x.when(4), 60);
        check.due("never", Check.of("d2,1,1;h0,1,9,9;").when(0), NONE);
    }

    private static void whenBad() {
        check.sentence("when. BAD");
        check.due("no HOUSE", new DishLift().when(0), BAD);
        DishLift x = Check.of(TWO);
        for (int dish : new int[] {-1, 2, 6, LEAST, MOST}) {
            check.due("dish " + dish, x.when(dish), BAD);
        }
    }

    private static void doneFromNoneToSixty() {
        check.sentence("DONE: behind how many MINUTES (0 to 60) all are SERVED first; NONE");
        DishLift x = Check.of("d2,1,9;h0,0,1,9;h0,1,1,9;");
        check.due("behind 2", x.done(), 2);
        x.minutes(2);
        check.due("now", x.done(), 0);
        check.due("behind 60", Check.of(SIXTY).done(), 60);
        x = Check.of(SIXTY_ONE);
        check.due("behind 61", x.done(), NONE);
        x.minutes(1);
        check.due("behind 60, a MINUTE on", x.done(), 60);
        check.due("one never is", Check.of("d2,1,1;h0,1,9,9;h0,0,1,9;").done(), NONE);
    }

    private static void doneWithoutAHouse() {
        check.sentence("done. STATE: no HOUSE");
        DishLift x = new DishLift();
        check.due("new", x.done(), STATE);
        Check.tell(x, "d2,1,1;");
        check.due("behind a FAULT", x.done(), STATE);
    }

    private static void fineFromNoneToSixty() {
        check.sentence("FINE behind n MINUTES (0 to 60)");
        DishLift x = Check.of("d2,1,9;h0,0,1,20;h0,1,1,21;");
        check.due("behind 0", x.fine(0), 0);
        check.due("behind 1", x.fine(1), 1);
        check.due("behind 2", x.fine(2), 3);
        x.minutes(2);
        check.due("now", x.fine(0), 3);
        x = Check.of("d9,1,9;c0,8,1,0;c0,8,1,0;c0,8,1,0;c0,3,1,0;r0,5,1,60;");
        check.due("behind 59", x.fine(59), 1);
        check.due("behind 60", x.fine(60), 17);
        x.minutes(9);
        x.send(0, 1, 10);
        check.due("sent back", x.fine(0), 0);
    }

    private static void fineServedAndGood() {
        check.sentence("FINE: DISHES that are SERVED and GOOD (bits)");
        DishLift x = Check.of("d2,1,1;h0,0,1,20;h0,0,1,19;c0,0,1,10;c0,0,1,11;h0,1,9,60;c0,1,9,0;");
        check.due("SERVED and GOOD", x.fine(1), 5);
        check.due("GOOD, but none is SERVED", x.fine(0), 0);
    }

    private static void fineBad() {
        check.sentence("fine. BAD; STATE: no HOUSE (ahead of BAD)");
        DishLift x = new DishLift();
        check.due("no HOUSE", x.fine(0), STATE);
        for (int n : NOT_0_TO_60) {
            check.due("no HOUSE, n " + n, x.fine(n), STATE);
        }
        Check.tell(x, TWO);
        for (int n : NOT_0_TO_60) {
            check.due("n " + n, x.fine(n), BAD);
        }
    }

    private static void stands(DishLift x, int n, int which, int many) {
        check.due("which, " + n, x.site(n, 0), which);
        check.due("how many, " + n, x.site(n, 1), many);
    }

    private static void siteOfSeveralTheLeast() {
        check.sentence("STAND: the FLOOR by which most are SERVED and GOOD behind them, of several the least");
        DishLift x = Check.of("d9,1,9;h8,8,1,60;");
        for (int n = 1; n <= 9; n++) {
            stands(x, n, 9 - n, 1);
        }
        stands(x, 10, 0, 1);
        stands(Check.of("d9,1,1;h8,0,9,60;"), 9, 0, 0);
        stands(Check.of("d3,1,9;h1,1,1,30;h2,2,1,30;"), 1, 1, 1);
        stands(Check.of("d3,1,9;h1,1,1,30;h2,2,1,30;"), 2, 1, 2);
        stands(Check.of("d3,1,9;h0,0,1,30;h1,1,1,30;h2,2,1,30;"), 3, 0, 3);
    }

    /** Ice is light enough for the hot one to ride along, if THE CAR comes a MINUTE later than from the top. */
    private static void siteOnFloorsAlone() {
        check.sentence("STAND: the FLOOR (there is none above the top) on which THE CAR should be now");
        stands(Check.of("d3,2,7;i0,2,6,28;c1,1,5,45;h0,2,4,26;"), 6, 0, 0);
        stands(Check.of("d4,2,7;i0,2,6,28;c1,1,5,45;h0,2,4,26;"), 6, 3, 1);
    }

    private static void siteFromOneToForty() {
        check.sentence("STAND for n MINUTES (1 to 40)");
        DishLift x = Check.of(TWO);
        stands(x, 1, 0, 0);
        stands(x, 2, 2, 1);
        stands(x, 40, 0, 2);
        x.pull(3);
        stands(x, 2, 2, 1);
        check.due("FLOOR stays", x.car(1), 3);
    }

    private static void siteServedAndGood() {
        check.sentence("STAND: most are SERVED and GOOD; how many");
        stands(Check.of("d2,1,9;h0,0,1,19;h1,1,1,20;"), 1, 1, 1);
        stands(Check.of("d2,1,9;h0,0,1,19;h1,1,1,20;"), 2, 1, 1);
        stands(Check.of("d2,1,9;h0,0,1,19;h1,1,1,21;"), 2, 0, 1);
        DishLift x = Check.of("d2,1,9;h0,0,1,30;h1,1,1,30;");
        x.minutes(1);
        stands(x, 1, 1, 2);
    }

    private static void siteBad() {
        check.sentence("site. BAD; STATE: no HOUSE (ahead of BAD)");
        DishLift x = new DishLift();
        check.due("no HOUSE", x.site(1, 0), STATE);
        check.due("no HOUSE", x.site(0, 2), STATE);
        Check.tell(x, TWO);
        for (int n : NOT_1_TO_40) {
            check.due("n " + n, x.site(n, 0), BAD);
        }
        for (int what : NOT_0_TO_1) {
            check.due("what " + what, x.site(1, what), BAD);
        }
    }

    private static void needRoomFromOneToFour() {
        check.sentence("NEED: the least ROOM (1 to 4), with all else as it is, by which all are SERVED behind them");
        DishLift x = Check.of("d2,1,40;h0,1,9,9;h0,1,9,9;h0,1,9,9;h0,1,9,9;");
        check.due("in 2", x.need(2, 0), 4);
        check.due("in 3", x.need(3, 0), 4);
        check.due("in 4", x.need(4, 0), 2);
        check.due("in 7", x.need(7, 0), 2);
        check.due("in 8", x.need(8, 0), 1);
        x.rope(35);
        check.due("ROPE is as it is", x.need(2, 0), NONE);
        x.rope(36);
        check.due("just enough ROPE", x.need(2, 0), 4);
        x.room(4);
        x.minutes(2);
        check.due("all are SERVED now", x.need(1, 0), 1);
    }

    private static void needRope() {
        check.sentence("NEED: the least ROPE (1 to 40), with all else as it is, by which all are SERVED behind them");
        DishLift x = Check.of("d2,4,1;h0,1,9,9;h0,1,9,9;h0,1,9,9;h0,1,9,9;");
        check.due("in 2", x.need(2, 1), 36);
        check.due("in 4", x.need(4, 1), 18);
        check.due("in 8", x.need(8, 1), 9);
        x.room(3);
        check.due("ROOM is as it is", x.need(2, 1), NONE);
        check.due("one that is light", Check.of("d2,1,40;h0,1,1,9;").need(2, 1), 1);
        x = Check.of("d2,1,40;h0,0,9,9;");
        check.due("one that need not be lifted", x.need(1, 1), 1);
    }

    private static void needNone() {
        check.sentence("NEED; NONE");
        DishLift x = Check.of("d3,1,9;h0,2,1,9;");
        check.due("ROOM, a MINUTE too few", x.need(2, 0), NONE);
        check.due("ROPE, a MINUTE too few", x.need(2, 1), NONE);
        check.due("ROOM", x.need(3, 0), 1);
        check.due("ROPE", x.need(3, 1), 1);
    }

    /** Two round trips of 16 minutes, then 8: behind 40 minutes all is served, a floor further off behind 41. */
    private static void needFromOneToForty() {
        check.sentence("NEED for n MINUTES (1 to 40)");
        check.due("in 1", Check.of("d2,1,9;h0,0,1,9;").need(1, 0), 1);
        DishLift x = Check.of("d9,1,9;h0,8,1,1;h0,8,1,1;h0,7,1,1;");
        check.due("in 40", x.need(40, 1), 1);
        check.due("ROOM in 40", x.need(40, 0), 1);
        check.due("in 39", x.need(39, 1), NONE);
        check.due("ROOM in 39", x.need(39, 0), 2);
        x.pull(1);
        check.due("in 40, a floor further off", x.need(40, 1), NONE);
    }

    private static void needBad() {
        check.sentence("need. BAD; STATE: no HOUSE (ahead of BAD)");
        DishLift x = new DishLift();
        check.due("no HOUSE", x.need(1, 0), STATE);
        check.due("no HOUSE", x.need(0, 2), STATE);
        Check.tell(x, TWO);
        for (int n : NOT_1_TO_40) {
            check.due("n " + n, x.need(n, 0), BAD);
            check.due("n " + n, x.need(n, 1), BAD);
        }
        for (int what : NOT_0_TO_1) {
            check.due("what " + what, x.need(1, what), BAD);
        }
    }

    private static void ranksNAndOneForOneThatIsNot() {
        check.sentence("RANKS: n and 1 for one that is not then");
        DishLift x = Check.of("d2,1,1;h0,1,9,9;");
        check.due("n 1", x.ranks(1, -1), 2);
        check.due("n 40", x.ranks(40, -1), 41);
        x = Check.of("d3,1,9;h0,2,1,9;");
        check.due("n 2", x.ranks(2, -1), 3);
        check.due("n 3, SERVED just then", x.ranks(3, -1), 3);
        check.due("n 4", x.ranks(4, -1), 3);
    }

    private static void ranksZeroForOneThatIsNow() {
        check.sentence("RANKS: 0 for one that is now");
        DishLift x = Check.of("d2,1,1;h0,0,1,9;h0,1,9,9;");
        x.minutes(1);
        check.due("one is", x.ranks(5, -1), 6);
        x = Check.of("d2,1,1;h0,0,1,9;h0,0,1,9;");
        x.minutes(1);
        check.due("all are", x.ranks(40, -1), 0);
        check.due("the first order, 0", x.ranks(40, 0), 0);
        check.due("the first order, 1", x.ranks(40, 1), 1);
    }

    private static void order(DishLift x, int n, int... due) {
        for (int k = 0; k < due.length; k++) {
            check.due("ranks of " + n + ", " + k, x.ranks(n, k), due[k]);
        }
        check.due("no more", x.ranks(n, due.length), NONE);
    }

    private static void ranksOfSeveralTheFirst() {
        check.sentence("RANKS: of all orders that by which MINUTES are least, of several the first (by numbers)");
        DishLift x = Check.of("d3,1,9;h0,2,1,30;h0,1,1,30;");
        check.due("in 1", x.ranks(1, -1), 4);
        order(x, 1, 0, 1);
        check.due("in 4", x.ranks(4, -1), 2 + 5);
        order(x, 4, 1, 0);
        order(Check.of("d3,1,9;h0,1,1,30;h0,1,1,30;h0,1,1,30;"), 40, 0, 1, 2);
        order(Check.of("d3,1,9;h1,2,1,30;h0,2,1,30;h0,1,1,30;"), 40, 0, 2, 1);
        order(Check.of("d4,1,9;h0,3,1,30;h0,3,1,30;h0,1,1,30;"), 40, 2, 0, 1);
        order(Check.of("d4,1,9;h0,3,1,30;h2,1,1,30;h0,1,1,30;"), 40, 1, 2, 0);
    }

    private static void ranksOfSix() {
        check.sentence("RANKS of 6 DISHES: the k-th DISH (0 on)");
        DishLift x = Check.of("d9,1,9;h0,6,1,60;h0,5,1,60;h0,4,1,60;h0,3,1,60;h0,2,1,60;h0,1,1,60;");
        order(x, 40, 5, 4, 3, 2, 1, 0);
        check.due("how much", x.ranks(40, -1), 2 + 5 + 10 + 17 + 26 + 37);
        check.due("RANK itself stays by numbers", x.when(0), 7);
    }

    /** Asked with one n of houses that differ in one thing: what was found of the first must not be told of the other. */
    private static void anew(String what, String first, int due, String other, int dueThen) {
        DishLift x = Check.of(first);
        check.due(what + ", " + first, x.ranks(20, -1), due);
        Check.tell(x, other);
        check.due(what + ", " + other, x.ranks(20, -1), dueThen);
    }

    private static void ranksFromNowOn() {
        check.sentence("RANKS from now on (as the HOUSE is now)");
        anew("SORT", "d2,1,2;i0,1,3,10;", 3, "d2,1,2;c0,1,3,10;", 21);
        anew("FROM", "d3,1,9;h0,1,1,10;", 2, "d3,1,9;h2,1,1,10;", 4);
        anew("TO", "d3,1,9;h0,2,1,10;", 3, "d3,1,9;h0,1,1,10;", 2);
        anew("WEIGHT", "d2,1,5;h0,1,5,10;", 2, "d2,1,5;h0,1,6,10;", 21);
        anew("HEAT", "d2,1,2;i0,1,3,10;", 3, "d2,1,2;i0,1,3,0;", 12);
        anew("ROOM", "d2,1,9;h0,1,1,10;h0,1,1,10;", 2 + 4, "d2,2,9;h0,1,1,10;h0,1,1,10;", 2 + 2);
        anew("ROPE", "d2,2,1;h0,1,1,10;h0,1,1,10;", 2 + 4, "d2,2,2;h0,1,1,10;h0,1,1,10;", 2 + 2);
        anew("DISHES", "d2,1,9;h0,1,1,10;", 2, "d2,1,9;h0,1,1,10;h0,1,1,10;", 2 + 4);
        anew("DISHES", "d2,1,9;h0,1,1,10;h0,1,1,10;", 2 + 4, "d2,1,9;h0,1,1,10;", 2);
        DishLift x = Check.of("d4,2,9;h1,0,1,30;h1,3,1,30;");
        x.minutes(1);
        check.due("WAY is up", x.ranks(20, -1), 3 + 6);
        x.undo();
        x.pull(2);
        x.minutes(1);
        check.due("WAY is down, all else the same", x.ranks(20, -1), 2 + 5);
        x.pull(0);
        check.due("FLOOR", x.ranks(20, -1), 4 + 7);
    }

    private static void ranksNotSoMany() {
        check.sentence("ranks: the k-th (0 on; NONE: not so many)");
        DishLift x = Check.of(TWO);
        check.due("how much", x.ranks(9, -1), 10);
        check.due("0", x.ranks(9, 0), 0);
        check.due("1", x.ranks(9, 1), 1);
        for (int k : new int[] {2, 5, 6, MOST}) {
            check.due("k " + k, x.ranks(9, k), NONE);
        }
    }

    private static void ranksBad() {
        check.sentence("ranks. BAD: k below -1, too; STATE: no HOUSE (ahead of BAD)");
        DishLift x = new DishLift();
        check.due("no HOUSE", x.ranks(1, -1), STATE);
        check.due("no HOUSE", x.ranks(0, -2), STATE);
        check.due("no HOUSE, not so many", x.ranks(1, 6), STATE);
        Check.tell(x, TWO);
        for (int n : NOT_1_TO_40) {
            check.due("n " + n, x.ranks(n, -1), BAD);
            check.due("n " + n + ", not so many", x.ranks(n, 2), BAD);
        }
        for (int k : new int[] {-2, -3, LEAST}) {
            check.due("k " + k, x.ranks(1, k), BAD);
        }
    }

    private static void held(DishLift x, int many, int which, int weight) {
        check.due("how many", x.holds(0), many);
        check.due("which", x.holds(1), which);
        check.due("how much", x.holds(2), weight);
    }

    private static void holdsTheEmptyOne() {
        check.sentence("HOLDS: how many (the empty one, too)");
        held(Check.of("d2,1,1;h0,1,2,9;"), 1, 0, 0);
        DishLift x = Check.of("d2,1,9;h0,0,1,9;");
        held(x, 2, 1, 1);
        x.minutes(1);
        held(x, 1, 0, 0);
    }

    private static void holdsRoom() {
        check.sentence("HOLDS: sets of DISHES that could be IN THE CAR at once (ROOM)");
        DishLift x = Check.of("d2,1,40;h0,1,1,9;h1,0,1,9;h0,1,1,9;h1,0,1,9;h0,1,1,9;h1,0,1,9;");
        int[] many = {7, 22, 42, 57};
        for (int room = 1; room <= 4; room++) {
            x.room(room);
            held(x, many[room - 1], (1 << room) - 1, room);
        }
        x.minutes(1);
        held(x, 57, 15, 4);
    }

    private static void holdsRope() {
        check.sentence("HOLDS: sets of DISHES that could be IN THE CAR at once (ROPE)");
        DishLift x = Check.of("d2,4,40;h0,1,9,9;h0,1,9,9;h0,1,9,9;h0,1,9,9;");
        held(x, 16, 15, 36);
        x.rope(36);
        held(x, 16, 15, 36);
        x.rope(35);
        held(x, 15, 7, 27);
        x.rope(9);
        held(x, 5, 1, 9);
        x.rope(8);
        held(x, 1, 0, 0);
    }

    private static void holdsMostWeightMostDishesLeastBits() {
        check.sentence("that with most WEIGHT, of several that with most DISHES, then the least bits: which; how much");
        DishLift x = Check.of("d2,4,6;h0,1,6,9;h0,1,2,9;h0,1,2,9;h0,1,2,9;h0,1,3,9;h0,1,3,9;");
        held(x, 18, 14, 6);
        x.room(2);
        held(x, 17, 48, 6);
        x.room(1);
        held(x, 7, 1, 6);
        held(Check.of("d2,2,5;h0,1,5,9;h0,1,1,9;h0,1,3,9;"), 5, 1, 5);
        held(Check.of("d2,2,5;h0,1,3,9;h0,1,2,9;h0,1,2,9;h0,1,3,9;"), 10, 3, 5);
    }

    private static void holdsBad() {
        check.sentence("holds. BAD; STATE: no HOUSE (ahead of BAD)");
        DishLift x = new DishLift();
        for (int what : new int[] {-1, 0, 2, 3, LEAST, MOST}) {
            check.due("no HOUSE, what " + what, x.holds(what), STATE);
        }
        Check.tell(x, TWO);
        for (int what : new int[] {-1, 3, LEAST, MOST}) {
            check.due("what " + what, x.holds(what), BAD);
        }
    }

    private static void shares(DishLift x, int n, int... due) {
        for (int d = 0; d < due.length; d++) {
            check.due("share " + d + " of " + n, x.share(d, n), due[d]);
        }
    }

    private static void shareCut() {
        check.sentence("SHARE of n (0 to 999): as many as n times HEAT by all HEAT of these (cut)");
        DishLift x = Check.of("d2,1,1;h0,1,9,30;h0,1,9,20;h0,1,9,10;");
        shares(x, 0, 0, 0, 0);
        shares(x, 6, 3, 2, 1);
        shares(x, 60, 30, 20, 10);
        shares(x, 999, 500, 333, 166);
        shares(Check.of("d2,1,1;h0,1,9,60;"), 999, 999);
        shares(Check.of("d2,1,1;h0,1,9,60;h0,1,9,60;h0,1,9,60;h0,1,9,60;h0,1,9,60;h0,1,9,60;"), 999, 167, 167, 167, 166, 166, 166);
    }

    private static void shareOver() {
        check.sentence("what is over 1 each to the first ones that have any");
        shares(Check.of("d2,1,1;h0,1,9,10;h0,1,9,10;h0,1,9,10;"), 2, 1, 1, 0);
        shares(Check.of("d2,1,1;h0,1,9,10;h0,1,9,10;h0,1,9,10;"), 1, 1, 0, 0);
        shares(Check.of("d2,1,1;h0,1,9,0;h0,1,9,10;h0,1,9,0;h0,1,9,10;h0,1,9,10;"), 2, 0, 1, 0, 1, 0);
        shares(Check.of("d2,1,1;h0,1,9,1;h0,1,9,60;h0,1,9,60;"), 2, 1, 1, 0);
        DishLift x = Check.of("d2,1,9;h0,0,9,60;h0,1,9,10;h0,1,9,10;h0,1,9,10;");
        x.minutes(1);
        shares(x, 5, 0, 2, 2, 1);
    }

    private static void shareNone() {
        check.sentence("SHARE: 0, if it is SERVED, or none has any");
        DishLift x = Check.of("d2,1,9;h0,0,9,60;h0,1,9,1;h0,1,9,1;");
        x.minutes(1);
        shares(x, 999, 0, 0, 0);
        x = Check.of("d2,1,9;h0,0,9,60;");
        shares(x, 999, 999);
        x.minutes(1);
        shares(x, 999, 0);
        shares(Check.of("d2,1,9;h0,1,9,0;c0,1,9,0;"), 7, 0, 0);
        shares(Check.of("d2,1,9;h0,1,9,0;c0,1,9,1;"), 7, 0, 7);
    }

    private static void shareBad() {
        check.sentence("share. BAD");
        check.due("no HOUSE", new DishLift().share(0, 0), BAD);
        DishLift x = Check.of(TWO);
        for (int dish : new int[] {-1, 2, 6, LEAST, MOST}) {
            check.due("dish " + dish, x.share(dish, 1), BAD);
        }
        for (int n : new int[] {-1, 1000, LEAST, MOST}) {
            check.due("n " + n, x.share(0, n), BAD);
        }
        x.minutes(4);
        check.due("n 1000 of one that is SERVED", x.share(0, 1000), BAD);
    }

    private static void turnsFromNoneToFour() {
        check.sentence("TURNS of two, n in all (0 to 4): the cook, then the butler, and so on");
        DishLift x = Check.of("d2,1,9;h0,0,1,30;h0,1,1,20;");
        int[] due = {30, 30, 0, 30, 0};
        for (int n = 0; n <= 4; n++) {
            check.due("turns " + n, x.byTurns(n, 1), due[n]);
        }
        x.pull(1);
        int[] fromAbove = {0, 30, 0, 30, 0};
        for (int n = 0; n <= 4; n++) {
            check.due("turns " + n + " from above", x.byTurns(n, 1), fromAbove[n]);
        }
        check.due("nothing changes", x.car(1) * 10 + x.count(7), 11);
    }

    private static void turnsNotBeyondTheEnds() {
        check.sentence("one FLOOR down, or does nothing, one FLOOR up, or does nothing (not beyond the ends)");
        DishLift x = Check.of("d2,1,9;h0,0,1,30;");
        check.due("the cook, on FLOOR 0", x.byTurns(1, 1), 30);
        x = Check.of("d3,1,9;h1,1,1,30;");
        x.pull(2);
        check.due("the cook pulls it down to 1", x.byTurns(1, 1), 30);
        check.due("the butler pulls it up again", x.byTurns(2, 1), 0);
        x = Check.of("d3,1,9;h2,2,1,30;");
        x.pull(2);
        check.due("the butler, on the top FLOOR", x.byTurns(2, 1), 30);
        check.due("and again", x.byTurns(4, 1), 30);
        x = Check.of("d3,1,9;h0,0,1,30;");
        x.pull(2);
        check.due("one FLOOR a turn", x.byTurns(1, 1), 0);
        check.due("the butler wants it little", x.byTurns(3, 1), 0);
    }

    private static void turnsMinutes() {
        check.sentence("TURNS: then m MINUTES (1 to 20): HEAT of all that are SERVED then, together");
        DishLift x = Check.of("d2,1,9;h0,0,1,30;h0,1,1,20;");
        check.due("m 1", x.byTurns(0, 1), 30);
        check.due("m 2", x.byTurns(0, 2), 49);
        check.due("m 20", x.byTurns(0, 20), 49);
        check.due("m 20, pulled up", x.byTurns(2, 20), 47);
        x.minutes(1);
        check.due("those that are SERVED now, too", x.byTurns(0, 1), 49);
        x = Check.of("d9,1,9;h0,8,1,60;h0,2,1,60;");
        check.due("m 18", x.byTurns(0, 18), 52);
        check.due("m 19", x.byTurns(0, 19), 52 + 42);
        x = Check.of("d9,1,9;h0,8,1,60;h0,3,1,60;");
        check.due("m 19", x.byTurns(0, 19), 52);
        check.due("m 20", x.byTurns(0, 20), 52 + 41);
    }

    private static void turnsBad() {
        check.sentence("byTurns. BAD; STATE: no HOUSE (ahead of BAD)");
        DishLift x = new DishLift();
        check.due("no HOUSE", x.byTurns(0, 1), STATE);
        check.due("no HOUSE", x.byTurns(5, 0), STATE);
        Check.tell(x, TWO);
        for (int n : new int[] {-1, 5, LEAST, MOST}) {
            check.due("n " + n, x.byTurns(n, 1), BAD);
        }
        for (int m : new int[] {0, -1, 21, LEAST, MOST}) {
            check.due("m " + m, x.byTurns(0, m), BAD);
        }
    }

    private static void whoKinds() {
        check.sentence("KINDS (bits 1 to 5) by which it is so");
        DishLift x = Check.withRow("d2,1,1;h0,1,9,30;", 29, 30, 31);
        check.due("hot, soup", x.who(0, 0, 0, 0, 1), 0b000110);
        check.due("roast", x.who(0, 0, 0, 1, 1), 0b001000);
        check.due("cold, ice", x.who(0, 0, 0, 2, 1), 0b110000);
        check.due("the KIND stays", x.kind(0), 1);
        x = Check.withRow("d2,1,1;h0,1,9,0;", 0, 0);
        check.due("0 at least", x.who(0, 0, 0, 0, 2), 0b001110);
        x = Check.withRow("d2,1,1;h0,1,9,60;", 60, 60);
        check.due("60 at most", x.who(0, 0, 0, 0, 2), 0b110000);
        x = Check.withRow("d2,1,1;h0,0,9,60;", 60, 60);
        check.due("SERVED at once", x.who(0, 0, 0, 0, 2), 0b111110);
    }

    private static void whoFloors() {
        check.sentence("FLOORS (bits) on which THE CAR may be now, by which it is so");
        DishLift x = Check.withRow("d9,1,9;h8,8,1,30;", 30, 29);
        check.due("the highest", x.who(0, 1, 0, 0, 1), 256);
        check.due("all others", x.who(0, 1, 0, 1, 1), 255);
        check.due("FLOOR stays", x.car(1), 0);
        x = Check.withRow("d2,1,9;h0,0,1,30;", 30, 29);
        check.due("the lowest", x.who(0, 1, 0, 0, 1), 1);
        check.due("the other", x.who(0, 1, 0, 1, 1), 2);
        x.minutes(1);
        check.due("all", x.who(0, 1, 0, 0, 1), 3);
    }

    private static void whoHeats() {
        check.sentence("HEATS (0 to 60) of it now: how many; the least");
        DishLift x = Check.withRow("d2,1,9;c0,0,1,30;", 0, 60, 61, -1);
        check.due("how many, 0", x.who(0, 2, 0, 0, 1), 1);
        check.due("the least, 0", x.who(0, 3, 0, 0, 1), 0);
        check.due("how many, 60", x.who(0, 2, 0, 1, 1), 1);
        check.due("the least, 60", x.who(0, 3, 0, 1, 1), 60);
        check.due("how many, 61", x.who(0, 2, 0, 2, 1), 0);
        check.due("how many, -1", x.who(0, 2, 0, 3, 1), 0);
        check.due("HEAT stays", x.dish(0, 3), 30);
        x = Check.withRow("d2,1,9;c0,1,9,30;", 60, 60, 1, 2);
        check.due("60 at most, how many", x.who(0, 2, 0, 0, 1), 2);
        check.due("60 at most, the least", x.who(0, 3, 0, 0, 1), 59);
        check.due("from 0, the least", x.who(0, 3, 0, 2, 1), 0);
        x = Check.withRow("d2,1,1;h0,1,9,30;", 0, 0, 59, 60);
        check.due("0 at least, how many", x.who(0, 2, 0, 0, 2), 2);
        check.due("0 at least, the least", x.who(0, 3, 0, 0, 2), 0);
        check.due("from 60, the least", x.who(0, 3, 0, 2, 1), 60);
        check.due("none", x.who(0, 2, 0, 3, 1), 0);
    }

    private static void whoRopes() {
        check.sentence("ROPES (1 to 40): how many; the least");
        DishLift x = Check.withRow("d2,1,9;h0,1,5,30;", 29, 29, 29, 28);
        check.due("any, how many", x.who(0, 4, 0, 0, 1), 40);
        check.due("any, the least", x.who(0, 5, 0, 0, 1), 1);
        check.due("strong ones, how many", x.who(0, 4, 0, 0, 2), 36);
        check.due("strong ones, the least", x.who(0, 5, 0, 0, 2), 5);
        check.due("weak ones, how many", x.who(0, 4, 0, 2, 2), 4);
        check.due("weak ones, the least", x.who(0, 5, 0, 2, 2), 1);
        check.due("ROPE stays", x.car(4), 9);
    }

    private static void whoNone() {
        check.sentence("who: HEATS, ROPES: the least; NONE");
        DishLift x = Check.withRow("d2,1,9;h0,1,5,30;", 7, 29);
        check.due("KINDS", x.who(0, 0, 0, 0, 2), 0);
        check.due("FLOORS", x.who(0, 1, 0, 0, 2), 0);
        check.due("HEATS, how many", x.who(0, 2, 0, 0, 2), 0);
        check.due("HEATS, the least", x.who(0, 3, 0, 0, 2), NONE);
        check.due("ROPES, how many", x.who(0, 4, 0, 0, 2), 0);
        check.due("ROPES, the least", x.who(0, 5, 0, 0, 2), NONE);
        check.due("no finding", x.status(), 0);
    }

    private static void whoFromOneToTwelve() {
        check.sentence("A row tells HEAT of a DISH behind each of n MINUTES (1 to 12) from now on");
        int[] items = new int[14];
        for (int i = 0; i < 13; i++) {
            items[i] = 29 - i;
        }
        items[13] = 99;
        DishLift x = Check.withRow("d2,1,1;h0,1,9,30;", items);
        check.due("1", x.who(0, 3, 0, 0, 1), 30);
        check.due("12", x.who(0, 3, 0, 0, 12), 30);
        check.due("12, from the next", x.who(0, 3, 0, 1, 12), 29);
        check.due("12, the last is not so", x.who(0, 3, 0, 2, 12), NONE);
        check.due("11, ahead of it", x.who(0, 3, 0, 2, 11), 28);
        check.due("13", x.who(0, 3, 0, 0, 13), BAD);
        check.due("0", x.who(0, 3, 0, 0, 0), BAD);
        x.minutes(1);
        check.due("from now on", x.who(0, 2, 0, 1, 12), 1);
        check.due("from now on, KINDS", x.who(0, 0, 0, 1, 1), 0b001110);
    }

    private static void whoPlace() {
        check.sentence("who: n ITEMS of a ROW from i on. NULL; PLACE");
        DishLift x = Check.of(TWO);
        check.due("missing", x.who(0, 0, 0, 0, 1), NULL);
        check.due("missing ahead of PLACE", x.who(0, 0, 0, -1, 1), NULL);
        check.due("status", x.status(), 1);
        x.row(0, 0, 12);
        check.due("all", x.who(0, 0, 0, 0, 12), 0);
        check.due("the last", x.who(0, 0, 0, 11, 1), 0);
        check.due("beyond the end by one", x.who(0, 0, 0, 1, 12), PLACE);
        check.due("status", x.status(), 2);
        for (int i : new int[] {-1, 12, 13, LEAST, MOST}) {
            check.due("i " + i, x.who(0, 0, 0, i, 1), PLACE);
        }
        check.due("wraps around", x.who(0, 0, 0, MOST, 12), PLACE);
        x.row(0, 0, 0);
        check.due("a row of none", x.who(0, 0, 0, 0, 1), PLACE);
        x.drop(0);
        check.due("dropped", x.who(0, 0, 0, 0, 1), NULL);
    }

    private static void whoBad() {
        check.sentence("who. BAD: DISH, which, ROW, n (ahead of NULL, PLACE)");
        DishLift x = new DishLift();
        x.row(0, 0, 12);
        check.due("no HOUSE", x.who(0, 0, 0, 0, 1), BAD);
        Check.tell(x, TWO);
        for (int dish : new int[] {-1, 2, 6, LEAST, MOST}) {
            check.due("dish " + dish, x.who(dish, 0, 0, 0, 1), BAD);
        }
        for (int which : new int[] {-1, 6, LEAST, MOST}) {
            check.due("which " + which, x.who(0, which, 0, 0, 1), BAD);
        }
        for (int row : new int[] {-1, 8, LEAST, MOST}) {
            check.due("row " + row, x.who(0, 0, row, 0, 1), BAD);
        }
        for (int n : new int[] {0, -1, 13, LEAST, MOST}) {
            check.due("n " + n, x.who(0, 0, 0, 0, n), BAD);
            check.due("n " + n + ", missing", x.who(0, 0, 1, 0, n), BAD);
            check.due("n " + n + ", no such place", x.who(0, 0, 0, -1, n), BAD);
        }
        check.due("dish, missing", x.who(2, 0, 1, 0, 1), BAD);
        check.due("which, missing", x.who(0, 6, 1, 0, 1), BAD);
        check.due("no finding", x.status(), 0);
    }

    private static void part(DishLift x, int dish, int n, int p, long above, long below) {
        check.due("stuck " + dish + ", " + n + ", " + p + ", above", x.stuck(dish, n, p, 0), above);
        check.due("stuck " + dish + ", " + n + ", " + p + ", below", x.stuck(dish, n, p, 1), below);
    }

    private static void stuckFractions() {
        check.sentence("fractions, told as two numbers in lowest terms (0 is 0 by 1)");
        DishLift x = Check.of("d2,1,1;h0,0,1,9;h0,1,9,9;");
        part(x, 0, 1, 5, 1, 2);
        part(x, 0, 1, 4, 3, 5);
        part(x, 0, 1, 2, 4, 5);
        part(x, 0, 1, 1, 9, 10);
        part(x, 0, 2, 5, 3, 4);
        part(x, 1, 0, 5, 0, 1);
        part(x, 1, 8, 5, 0, 1);
        part(x, 0, 8, 0, 1, 1);
    }

    private static void stuckFromNoneToEight() {
        check.sentence("STUCK: in each of n MINUTES (0 to 8)");
        DishLift x = Check.of("d2,1,1;h0,0,1,9;h0,1,1,9;");
        part(x, 0, 0, 5, 0, 1);
        part(x, 0, 8, 3, 99993439, 100000000);
        part(x, 0, 8, 9, 56953279, 100000000);
        part(x, 1, 1, 0, 0, 1);
        part(x, 1, 2, 5, 1, 4);
        part(x, 1, 8, 5, 247, 256);
        x.minutes(1);
        part(x, 0, 0, 5, 1, 1);
        part(x, 0, 8, 10, 1, 1);
        x = Check.of("d8,1,9;h0,6,1,9;h0,7,1,9;");
        part(x, 0, 8, 0, 1, 1);
        part(x, 1, 8, 0, 0, 1);
        part(x, 0, 7, 5, 1, 128);
        part(x, 0, 8, 5, 9, 256);
    }

    private static void stuckCases() {
        check.sentence("STUCK by p of 10 (0 to 10): the rope sticks in p of 10 cases");
        DishLift x = Check.of("d2,1,1;h0,0,1,9;");
        int[][] due = {{1, 1}, {9, 10}, {4, 5}, {7, 10}, {3, 5}, {1, 2}, {2, 5}, {3, 10}, {1, 5}, {1, 10}, {0, 1}};
        for (int p = 0; p <= 10; p++) {
            part(x, 0, 1, p, due[p][0], due[p][1]);
        }
        part(x, 0, 8, 10, 0, 1);
    }

    private static void stuckLeavesTheThirdStep() {
        check.sentence("the rope sticks (1 and 2 are left out in it)");
        DishLift ice = Check.of("d2,1,1;i0,1,2,9;");
        part(ice, 0, 2, 5, 0, 1);
        part(ice, 0, 3, 5, 1, 4);
        DishLift warm = Check.of("d2,1,1;i0,1,2,8;");
        part(warm, 0, 3, 5, 0, 1);
        part(warm, 0, 4, 5, 1, 4);
        DishLift soup = Check.of("d3,2,9;s0,2,5,30;h1,2,5,30;");
        part(soup, 1, 3, 5, 1, 8);
        DishLift still = Check.of("d3,2,9;s0,2,5,30;h1,2,6,30;");
        part(still, 1, 4, 5, 0, 1);
        part(still, 1, 5, 5, 1, 32);
        check.due("nothing changes", ice.count(3) + ice.dish(0, 2), 2);
    }

    private static void stuckBad() {
        check.sentence("stuck. BAD");
        check.due("no HOUSE", new DishLift().stuck(0, 0, 0, 0), BAD);
        DishLift x = Check.of(TWO);
        for (int dish : new int[] {-1, 2, 6, LEAST, MOST}) {
            check.due("dish " + dish, x.stuck(dish, 1, 1, 0), BAD);
        }
        for (int n : new int[] {-1, 9, LEAST, MOST}) {
            check.due("n " + n, x.stuck(0, n, 1, 0), BAD);
        }
        for (int p : new int[] {-1, 11, LEAST, MOST}) {
            check.due("p " + p, x.stuck(0, 1, p, 0), BAD);
        }
        for (int what : NOT_0_TO_1) {
            check.due("what " + what, x.stuck(0, 1, 1, what), BAD);
        }
    }

    private static void days(DishLift x, int n, int seed, int anew, int heat) {
        check.due("drawn " + n + ", " + seed + ", how many", x.drawn(n, seed, 0), anew);
        check.due("drawn " + n + ", " + seed + ", HEAT", x.drawn(n, seed, 1), heat);
    }

    private static void drawnFromNoneToSixty() {
        check.sentence("DAYS of n MINUTES (0 to 60): how many were SERVED anew in them, all together; HEAT of all at last");
        DishLift x = Check.of("d2,1,1;h0,1,9,60;c0,1,9,0;");
        days(x, 0, 1, 0, 60);
        days(x, 59, 1, 0, 1 + 59);
        days(x, 60, 1, 0, 0 + 60);
        x = Check.of("d2,1,9;h0,0,1,30;");
        x.minutes(1);
        days(x, 0, 1, 0, 30);
        check.due("nothing changes", x.count(3) * 100 + x.car(6), 101);
    }

    /** X is 16807, then 282475249, 1622650073, 984943658, 1144108930, 470211272, 101027544. */
    private static void drawnSentBack() {
        check.sentence("DAYS: if it is SERVED, is sent back to the FLOOR that is the rest of X "
            + "(perhaps that on which it is: it WAITS there then, TO is the same), HEAT the rest of X by 61");
        DishLift x = Check.of("d2,1,9;h0,0,1,30;");
        days(x, 1, 1, 1, 30);
        days(x, 2, 1, 1, 47);
        days(x, 3, 1, 2, 47);
        days(x, 4, 1, 2, 20);
        days(x, 5, 1, 3, 20);
        days(x, 6, 1, 4, 31);
        days(x, 7, 1, 5, 15);
    }

    private static void drawnSeeds() {
        check.sentence("DAYS by a SEED (1 to 999999): X becomes the rest of (X times 16807) by 2147483647");
        DishLift x = Check.of("d2,1,9;h0,0,1,30;");
        x.minutes(1);
        days(x, 1, 1, 0, 16807 % 61 - 1);
        days(x, 1, 999999, 1, 1774597664 % 61);
        days(x, 1, 127773, 0, 2147480811 % 61 - 1);
        days(x, 1, 127774, 0, 13971 % 61 - 1);
    }

    /** X is 67228, then 1129900996, 48149351: the first two leave 0 by 4 and 1 by 3. */
    private static void drawnPulled() {
        check.sentence("DAYS: else THE CAR is pulled to that FLOOR, if X by 4 leaves 0");
        DishLift x = Check.of("d3,1,9;h2,2,1,30;");
        days(x, 1, 4, 0, 29);
        days(x, 2, 4, 0, 28);
        days(x, 3, 4, 1, 28);
        x.minutes(2);
        check.due("THE CAR is there", x.car(1), 2);
        days(x, 1, 4, 0, 27);
        days(x, 1, 1, 1, 28);
    }

    private static void drawnBad() {
        check.sentence("drawn. BAD; STATE: no HOUSE (ahead of BAD)");
        DishLift x = new DishLift();
        check.due("no HOUSE", x.drawn(0, 1, 0), STATE);
        check.due("no HOUSE", x.drawn(-1, 0, 2), STATE);
        Check.tell(x, TWO);
        for (int n : NOT_0_TO_60) {
            check.due("n " + n, x.drawn(n, 1, 0), BAD);
        }
        for (int seed : new int[] {0, -1, 1000000, LEAST, MOST}) {
            check.due("seed " + seed, x.drawn(0, seed, 0), BAD);
        }
        for (int what : NOT_0_TO_1) {
            check.due("what " + what, x.drawn(0, 1, what), BAD);
        }
        check.due("just 1", x.drawn(0, 1, 1), 35);
        check.due("just 999999", x.drawn(0, 999999, 1), 35);
    }
}
