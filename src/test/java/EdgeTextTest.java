/** The edges of texts: promises 1, 6 to 8, and what is told of texts and faults ahead of them; a method a sentence. */
public final class EdgeTextTest {
    private static final int BAD = DishLift.BAD, STATE = DishLift.STATE, FULL = DishLift.FULL;
    private static final int LEAST = Integer.MIN_VALUE, MOST = Integer.MAX_VALUE;
    private static final Check check = new Check();
    /** A place in a text is where its FLOORS, ROOM, .. stand. */
    private static final String LAW = "d3,2,9;", DISH = "h0,1,2,30;";
    private static final String SIX = LAW + DISH + DISH + DISH + DISH + DISH + DISH;

    public static void main(String[] args) {
        noHouseAtFirst();
        bytesThatMayCome();
        tapeIsFull();
        tapeIsEmptyThen();
        nothingBehindTheEndIsRead();
        lettersByThemselves();
        twoFiguresAtMost();
        nothingElse();
        theLawComesFirst();
        aDishAtLeast();
        signsInTheirPlaces();
        floorsThereMayBe();
        roomThereMayBe();
        ropeThereMayBe();
        sortsThereAre();
        fromAndTo();
        weightsThereMayBe();
        heatsThereMayBe();
        sixDishesAtMost();
        inPlaceOfTheOneBefore();
        noActCanBeUndone();
        theEnd();
        threeFigures();
        theFirstTokenThatHasOne();
        theLeastOfOneToken();
        aDishMoreThanThereIsRoomFor();
        allStays();
        faultAtFirst();
        faultIsTheLatest();
        check.end();
    }

    private static void reads(String text, int dishes) {
        check.due(text, Check.tell(new DishLift(), text), dishes);
    }

    private static void faulty(String text, int place, int number) {
        DishLift x = new DishLift();
        check.due(text, Check.tell(x, text), -1000100 - place);
        check.due(text + ", fault", x.fault(), number);
        check.due(text + ", no house", x.done(), STATE);
    }

    private static void noHouseAtFirst() {
        check.sentence("DishLift(): No HOUSE");
        DishLift x = new DishLift();
        check.due("done", x.done(), STATE);
        check.due("kind", x.kind(0), BAD);
        check.due("pull", x.pull(0), BAD);
        check.due("restore", x.restore(0), STATE);
        for (int what = 0; what <= 8; what++) {
            check.due("count " + what, x.count(what), 0);
        }
    }

    private static void bytesThatMayCome() {
        check.sentence("A byte (0 to 255) comes behind the tape: how many it has. BAD");
        DishLift x = new DishLift();
        check.due("feed 0", x.feed(0), 1);
        check.due("feed 255", x.feed(255), 2);
        for (int letter : new int[] {-1, 256, LEAST, MOST}) {
            check.due("feed " + letter, x.feed(letter), BAD);
        }
        check.due("how many", x.count(8), 2);
        check.due("feed", x.feed('d'), 3);
    }

    private static DishLift full() {
        DishLift x = new DishLift();
        for (int i = 0; i < 110; i++) {
            x.feed('x');
        }
        return x;
    }

    private static void tapeIsFull() {
        check.sentence("THE TAPE has at most 110 bytes. FULL");
        DishLift x = new DishLift();
        for (int i = 1; i <= 109; i++) {
            x.feed('x');
        }
        check.due("the last one", x.feed('x'), 110);
        check.due("one more", x.feed('x'), FULL);
        check.due("again", x.feed(0), FULL);
        check.due("how many", x.count(8), 110);
        check.due("BAD ahead of FULL", x.feed(256), BAD);
        check.due("BAD ahead of FULL", x.feed(-1), BAD);
    }

    private static void tapeIsEmptyThen() {
        check.sentence("The tape, empty then, is read");
        DishLift x = full();
        check.due("read with a fault", x.house(), -1000100);
        check.due("empty", x.count(8), 0);
        check.due("what was there is gone", Check.tell(x, LAW + DISH), 1);
        check.due("read without a fault", x.count(8), 0);
        check.due("an empty one", x.house(), -1000100);
        for (int i = 1; i <= 110; i++) {
            check.due("feed", x.feed('d'), i);
        }
        check.due("full again", x.feed('d'), FULL);
    }

    private static void nothingBehindTheEndIsRead() {
        check.sentence("The tape, empty then, is read (what an earlier text left behind its end is none of it)");
        String whole = "d3,2,15;h0,1,2,30;s1,2,3,40;";
        for (int n = 0; n < whole.length(); n++) {
            DishLift x = Check.of(whole);
            boolean ends = n == "d3,2,15;h0,1,2,30;".length();
            check.due("behind the whole, " + n + " bytes of it", Check.tell(x, whole.substring(0, n)), ends ? 1 : -1000100 - n);
        }
    }

    private static void lettersByThemselves() {
        check.sentence("letters a to z (each by itself)");
        faulty("dd3,2,9;" + DISH, 1, 1);
        faulty(LAW + "hh0,1,2,30;", 8, 1);
        faulty(LAW + "hs0,1,2,30;", 8, 1);
    }

    private static void twoFiguresAtMost() {
        check.sentence("NUMBERS (figures, 2 at most)");
        reads("d3,2,9;h0,1,2,3;", 1);
        reads("d03,02,09;h00,01,02,03;", 1);
        DishLift x = Check.of("d09,04,08;h08,07,06,05;");
        check.due("FLOORS", x.car(0), 9);
        check.due("ROOM", x.car(3), 4);
        check.due("ROPE", x.car(4), 8);
        int[] due = {8, 7, 6, 5};
        for (int what = 0; what < 4; what++) {
            check.due("dish " + what, x.dish(0, what), due[what]);
        }
    }

    /** The neighbours of figures, letters and signs among the bytes, too. */
    private static void nothingElse() {
        check.sentence("SIGNS , and ; nothing else");
        int[] none = {0, 9, 10, 13, 32, '+', '-', '.', '/', ':', '<', '@', 'A', 'D', 'H', 'Z', '[', '`', '{', 127, 128, 255};
        String whole = LAW + DISH;
        for (int letter : none) {
            for (int at = 0; at <= whole.length(); at++) {
                boolean withinNumber = at == whole.indexOf("30;") + 1;
                if (!withinNumber) {
                    faulty(whole.substring(0, at) + (char) letter + whole.substring(at), at, 1);
                }
            }
            faulty("d3,2,9;h0,1,2,3" + (char) letter + "0;", 15, 1);
        }
    }

    private static void theLawComesFirst() {
        check.sentence("house: law dish { dish }. law: d");
        for (char letter = 'a'; letter <= 'z'; letter++) {
            if (letter != 'd') {
                faulty(letter + "3,2,9;" + DISH, 0, 1);
            }
        }
        faulty(DISH + LAW, 0, 1);
        faulty(LAW + LAW, 7, 1);
        faulty(LAW + DISH + LAW, 17, 1);
    }

    private static void aDishAtLeast() {
        check.sentence("house: law dish { dish }");
        faulty(LAW, 7, 1);
        String text = LAW;
        for (int dishes = 1; dishes <= 6; dishes++) {
            text += DISH;
            reads(text, dishes);
        }
    }

    private static void signsInTheirPlaces() {
        check.sentence("FLOORS , ROOM , ROPE ; SORT FROM , TO , WEIGHT , HEAT ;");
        String whole = LAW + DISH;
        for (int at = 0; at < whole.length(); at++) {
            char here = whole.charAt(at);
            if (here == ',' || here == ';') {
                faulty(whole.substring(0, at) + (here == ',' ? ';' : ',') + whole.substring(at + 1), at, 1);
                faulty(whole.substring(0, at) + here + whole.substring(at), at + 1, 1);
                faulty(whole.substring(0, at) + 'h' + whole.substring(at + 1), at, 1);
            }
        }
        faulty("d,2,9;" + DISH, 1, 1);
        faulty("d3,,9;" + DISH, 3, 1);
        faulty(LAW + "h,1,2,30;", 8, 1);
        faulty(LAW + "h0,1,2,;", 14, 1);
    }

    /** Each number from 0 to 99, in two figures and, if it can be, in one. */
    private static void numbers(String before, String behind, int least, int most) {
        for (int v = 0; v <= 99; v++) {
            for (String number : new String[] {"" + v, (v < 10 ? "0" : "") + v}) {
                if (v >= least && v <= most) {
                    reads(before + number + behind, 1);
                } else {
                    faulty(before + number + behind, before.length(), 2);
                }
            }
        }
    }

    private static void floorsThereMayBe() {
        check.sentence("FLOORS (2 to 9). 2 a NUMBER that is not as told");
        numbers("d", ",2,9;" + DISH, 2, 9);
    }

    private static void roomThereMayBe() {
        check.sentence("ROOM (1 to 4). 2 a NUMBER that is not as told");
        numbers("d3,", ",9;" + DISH, 1, 4);
    }

    private static void ropeThereMayBe() {
        check.sentence("ROPE (1 to 40). 2 a NUMBER that is not as told");
        numbers("d3,2,", ";" + DISH, 1, 40);
    }

    private static void sortsThereAre() {
        check.sentence("SORT: h a hot one, s a soup, r a roast, c a cold one, i ice");
        for (char letter = 'a'; letter <= 'z'; letter++) {
            int kind = " hsrci".indexOf(letter);
            if (kind < 0) {
                faulty(LAW + letter + "0,1,2,30;", 7, 1);
                faulty(LAW + DISH + letter + "0,1,2,30;", 17, 1);
            } else {
                check.due("kind of " + letter, Check.of(LAW + DISH + letter + "0,1,2,30;").kind(1), kind);
            }
        }
    }

    private static void fromAndTo() {
        check.sentence("FROM , TO (FLOORS, perhaps the same)");
        for (int floors = 2; floors <= 9; floors++) {
            String law = "d" + floors + ",1,1;";
            numbers(law + "h", ",0,1,1;", 0, floors - 1);
            numbers(law + "h0,", ",1,1;", 0, floors - 1);
        }
        for (int f = 0; f < 9; f++) {
            DishLift x = Check.of("d9,1,1;h" + f + "," + f + ",1,1;");
            check.due("the same, from", x.dish(0, 0), f);
            check.due("the same, to", x.dish(0, 1), f);
        }
    }

    private static void weightsThereMayBe() {
        check.sentence("WEIGHT (1 to 9). 2 a NUMBER that is not as told");
        numbers(LAW + "h0,1,", ",30;", 1, 9);
    }

    private static void heatsThereMayBe() {
        check.sentence("HEAT (0 to 60). 2 a NUMBER that is not as told");
        numbers(LAW + "h0,1,2,", ";", 0, 60);
    }

    private static void sixDishesAtMost() {
        check.sentence("DISHES 0 .. 5, 6 at most");
        DishLift x = new DishLift();
        check.due("six", Check.tell(x, "d9,4,40;h0,1,1,10;h1,2,2,20;h2,3,3,30;h3,4,4,40;h4,5,5,50;h5,6,6,60;"), 6);
        for (int d = 0; d <= 5; d++) {
            int told = x.dish(d, 0) * 1000 + x.dish(d, 1) * 100 + x.dish(d, 2) * 10 + x.dish(d, 3) / 10;
            check.due("dish " + d, told, d * 1000 + (d + 1) * 100 + (d + 1) * 10 + d + 1);
        }
        check.due("no dish 6", x.dish(6, 0), BAD);
        check.due("the longest text that can be read", Check.tell(x, "d09,04,40;h00,01,01,10;h01,02,02,20;"
            + "h02,03,03,30;h03,04,04,40;h04,05,05,50;h05,06,06,60;"), 6);
        check.due("one dish", Check.tell(x, LAW + DISH), 1);
        check.due("no dish 1", x.dish(1, 0), BAD);
    }

    private static void inPlaceOfTheOneBefore() {
        check.sentence("A HOUSE that is read stands in place of the one before: MINUTE 0, THE CAR is on FLOOR 0, "
            + "its WAY is up (1), all DISHES WAIT at FROM");
        DishLift x = Check.of("d4,1,9;h0,3,2,30;c2,1,1,5;");
        x.minutes(5);
        check.due("WAY is down ahead of it", x.car(2), 0);
        check.due("one is IN THE CAR ahead of it", x.car(5), 2);
        check.due("one is SERVED ahead of it", x.car(6), 1);
        x.room(4);
        x.rope(7);
        check.due("read", Check.tell(x, "d5,2,3;i4,2,3,4;"), 1);
        int[] due = {5, 0, 1, 2, 3, 0, 0, 16, 0};
        for (int what = 0; what <= 8; what++) {
            check.due("car " + what, x.car(what), due[what]);
        }
        check.due("MINUTE", x.count(3), 0);
        check.due("WAIT", x.count(4), 1);
        check.due("at FROM", x.dish(0, 0), 4);
        check.due("no dish of the one before", x.dish(1, 0), BAD);
        check.due("the same text again", Check.tell(x, "d5,2,3;i4,2,3,4;"), 1);
    }

    private static void noActCanBeUndone() {
        check.sentence("A HOUSE that is read: no ACT can be undone");
        DishLift x = Check.of(LAW + DISH);
        x.minutes(24);
        Check.tell(x, LAW + DISH);
        check.due("how many", x.count(7), 0);
        check.due("undo", x.undo(), STATE);
        x.pull(1);
        check.due("one anew", x.undo(), 0);
        check.due("no more", x.undo(), STATE);
    }

    private static void theEnd() {
        check.sentence("1 it cannot stand there (the end: how many bytes there are)");
        String whole = LAW + DISH + "s1,2,3,4;";
        for (int n = 0; n < whole.length(); n++) {
            if (n == (LAW + DISH).length()) {
                reads(whole.substring(0, n), 1);
            } else {
                faulty(whole.substring(0, n), n, 1);
            }
        }
        reads(whole, 2);
        faulty(LAW + "h0,1,2,3", 15, 1);
    }

    private static void threeFigures() {
        check.sentence("1 it is none (a run of three figures, at its first)");
        for (String run : new String[] {"003", "300", "0003", "999", "1234567890"}) {
            faulty(run, 0, 1);
            faulty("d" + run + ",2,9;" + DISH, 1, 1);
            faulty("d" + run, 1, 1);
            faulty("d3," + run + ",9;" + DISH, 3, 1);
            faulty("d3,2," + run + ";" + DISH, 5, 1);
            faulty(LAW + run, 7, 1);
            faulty(LAW + "h" + run + ",1,2,30;", 8, 1);
            faulty(LAW + "h0," + run + ",2,30;", 10, 1);
            faulty(LAW + "h0,1," + run + ",30;", 12, 1);
            faulty(LAW + "h0,1,2," + run + ";", 14, 1);
            faulty(LAW + DISH + run, 17, 1);
        }
    }

    private static void theFirstTokenThatHasOne() {
        check.sentence("the first TOKEN that has one (its first byte)");
        faulty("d1,0,0;", 1, 2);
        faulty("d10x", 1, 2);
        faulty("d99", 1, 2);
        faulty("d3,2,41;h0,1,2,300;", 5, 2);
        faulty("d3;2,41;", 2, 1);
        faulty(LAW + "h3,3,0,61;", 8, 2);
        faulty(LAW + "h0,3,0,61;", 10, 2);
        faulty(LAW + "h0,1,10,61;", 12, 2);
        faulty(LAW + "h0,1,2,61", 14, 2);
        faulty(LAW + "x3", 7, 1);
        faulty(LAW + DISH + DISH + DISH + DISH + DISH + "h0,1,2,61;h", 64, 2);
    }

    private static void theLeastOfOneToken() {
        check.sentence("of one TOKEN the least");
        faulty("99", 0, 1);
        faulty(LAW + "99", 7, 1);
        faulty("d3,999", 3, 1);
        faulty(SIX + "x", 67, 1);
        faulty(SIX + "d", 67, 1);
        faulty(SIX + "99", 67, 1);
        faulty(SIX + ",", 67, 1);
    }

    private static void aDishMoreThanThereIsRoomFor() {
        check.sentence("3 a dish more than there is room for (its letter)");
        reads(SIX, 6);
        for (char letter : "hsrci".toCharArray()) {
            faulty(SIX + letter, 67, 3);
            faulty(SIX + letter + "0,1,2,30;", 67, 3);
            faulty(SIX + letter + "99,99,99,99;", 67, 3);
        }
        faulty(SIX + DISH + DISH + DISH + DISH, 67, 3);
    }

    private static void allStays() {
        check.sentence("-1000100 less the place of a FAULT: all stays");
        for (String text : new String[] {"", "d", "d9,4,40;", "d9,4,40;i8,7,6,5", "d9,4,40;i8,7,6,5;x", "d1,", SIX + "h"}) {
            DishLift x = Check.of("d4,1,9;h0,3,2,30;c2,1,1,5;");
            x.image(0);
            x.minutes(4);
            check.holds("a fault in " + text, Check.tell(x, text) <= -1000100);
            int[] car = {4, 2, 0, 1, 9, 0, 1, 0, 0};
            for (int what = 0; what <= 8; what++) {
                check.due(text + ", car " + what, x.car(what), car[what]);
            }
            int[][] dish = {{11, 3, 2, 27, 1}, {2, 1, 1, 9, 1}};
            for (int what = 0; what <= 4; what++) {
                check.due(text + ", dish 0 " + what, x.dish(0, what), dish[0][what]);
                check.due(text + ", dish 1 " + what, x.dish(1, what), dish[1][what]);
            }
            check.due(text + ", kinds", x.kind(0) * 10 + x.kind(1), 14);
            check.due(text + ", MINUTE", x.count(3), 4);
            check.due(text + ", ACTS", x.count(7), 4);
            check.due(text + ", undo", x.undo(), 3);
            check.due(text + ", MINUTE", x.count(3), 3);
            check.due(text + ", restore", x.restore(0), 1);
            check.due(text + ", MINUTE", x.count(3), 0);
        }
    }

    private static void faultAtFirst() {
        check.sentence("fault. 0 before one");
        DishLift x = new DishLift();
        check.due("new", x.fault(), 0);
        Check.tell(x, LAW + DISH);
        check.due("behind a text without", x.fault(), 0);
        x.feed(256);
        x.pull(9);
        check.due("behind what is refused", x.fault(), 0);
    }

    private static void faultIsTheLatest() {
        check.sentence("fault. The number of the latest FAULT");
        DishLift x = new DishLift();
        Check.tell(x, "d1,");
        check.due("2", x.fault(), 2);
        Check.tell(x, SIX + "h");
        check.due("3", x.fault(), 3);
        Check.tell(x, SIX);
        check.due("3, behind a text without", x.fault(), 3);
        x.house();
        check.due("1", x.fault(), 1);
    }
}
