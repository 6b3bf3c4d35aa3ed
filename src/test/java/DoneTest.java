/** Promises 9 to 16 (what is done), 31 and 32 (images), 37 (count). */
public final class DoneTest {
    private static final Check check = new Check();
    private static final int BAD = DishLift.BAD, STATE = DishLift.STATE, FULL = DishLift.FULL;
    private static final int LEAST = Integer.MIN_VALUE, MOST = Integer.MAX_VALUE;
    /** The hot one gets in first and keeps the cold one out, as there is room for one. */
    private static final String TWO = "d4,1,9;h0,3,2,30;c2,1,1,5;";

    public static void main(String[] args) {
        minuteByMinute();
        wayAndTurning();
        roomAndRopeAtTheDoor();
        servedWhereItWaits();
        soups();
        roasts();
        ices();
        coldAndHotEnds();
        good();
        minutesRefused();
        pulls();
        ropesAndRooms();
        sends();
        undone();
        ring();
        images();
        counts();
        check.end();
    }

    private static void seen(String when, DishLift x, int... due) {
        int[] got = {x.car(1), x.car(2), x.car(5), x.car(6), x.car(7), x.car(8)};
        String[] what = {"FLOOR", "WAY", "IN", "SERVED", "CALLED", "LOAD"};
        for (int i = 0; i < due.length; i++) {
            check.due(when + " " + what[i], got[i], due[i]);
        }
    }

    private static void minuteByMinute() {
        DishLift x = Check.of(TWO);
        seen("at first", x, 0, 1, 0, 0, 4, 0);
        check.due("1", x.minutes(1), 0);
        seen("behind 1", x, 1, 1, 1, 0, 12, 2);
        check.due("2", x.minutes(1), 0);
        check.due("3", x.minutes(1), 0);
        seen("behind 3", x, 3, 1, 1, 0, 4, 2);
        check.due("cold one is left", x.dish(1, 0), 2);
        check.due("4", x.minutes(1), 1);
        seen("behind 4", x, 2, 0, 0, 1, 0, 0);
        check.due("served, not cooled again", x.dish(0, 3), 27);
        check.due("where", x.dish(0, 0), 11);
        check.due("6", x.minutes(2), 3);
        seen("behind 6", x, 1, 0, 0, 3, 0, 0);
        check.due("cold one", x.dish(1, 3), 10);
        check.due("good", x.dish(1, 4), 1);
        check.due("dish what -1", x.dish(0, -1), BAD);
        check.due("dish what 5", x.dish(0, 5), BAD);
        check.due("dish -1", x.dish(-1, 0), BAD);
        check.due("dish 2", x.dish(2, 0), BAD);
        check.due("car what -1", x.car(-1), BAD);
        check.due("car what 9", x.car(9), BAD);
        check.due("car ROOM", x.car(3), 1);
        check.due("car ROPE", x.car(4), 9);
        check.due("car FLOORS", x.car(0), 4);
    }

    private static void wayAndTurning() {
        DishLift x = Check.of("d5,4,40;h4,0,1,9;h0,1,1,9;");
        x.pull(2);
        x.minutes(1);
        seen("up, as WAY is up", x, 3, 1);
        x.minutes(2);
        seen("turned at the top", x, 3, 0);
        x.pull(1);
        check.due("WAY stays", x.car(2), 0);
        x.minutes(1);
        seen("down, where one is called", x, 0, 0);
        x.minutes(1);
        seen("the first is served, the other is in", x, 1, 1, 2, 1);
        x.minutes(1);
        seen("none is called: it stays, WAY too", x, 1, 1, 0, 3, 0, 0);
        DishLift y = Check.of("d5,1,40;h0,2,1,9;h4,0,1,9;h1,0,1,9;");
        y.minutes(2);
        seen("calls above are ahead of those below", y, 2, 1, 1, 0);
        y.minutes(1);
        seen("up to the caller", y, 3, 1, 0, 1);
    }

    private static void roomAndRopeAtTheDoor() {
        DishLift x = Check.of("d2,2,10;h0,1,6,9;h0,1,5,9;h0,1,4,9;h0,1,1,9;");
        x.minutes(1);
        check.due("by number: 6, not 5, 4, no room", x.car(5), 5);
        check.due("just as much as ROPE", x.car(8), 10);
        x = Check.of("d2,4,3;h1,0,4,9;");
        check.due("too heavy to call", x.car(7), 0);
        check.due("it waits", x.minutes(5), 0);
        x.rope(4);
        check.due("just strong enough to call", x.car(7), 2);
        check.due("served", x.minutes(3), 1);
        x = Check.of("d4,4,40;h0,3,9,9;h0,3,9,9;h1,3,9,9;");
        x.minutes(1);
        x.rope(18);
        x.minutes(1);
        check.due("the rope is at its end", x.car(5), 3);
        x.rope(1);
        check.due("those in the car call for all that", x.car(7), 8);
        check.due("and are served", x.minutes(2), 3);
        x = Check.of("d3,4,40;h0,2,1,9;h0,2,1,9;h1,2,1,9;");
        x.minutes(1);
        x.room(1);
        x.minutes(1);
        check.due("fewer than are in", x.car(5), 3);
    }

    private static void servedWhereItWaits() {
        DishLift x = Check.of("d3,1,1;c0,0,9,5;c1,1,9,5;c2,2,1,5;");
        check.due("where the car is", x.minutes(1), 1);
        check.due("one that is light enough calls", x.car(1), 1);
        check.due("the heavy one is served by the way", x.minutes(1), 3);
        check.due("all", x.minutes(1), 7);
    }

    private static void soups() {
        DishLift x = Check.of("d9,1,9;s0,8,3,2;s0,8,5,60;");
        x.minutes(1);
        check.due("weight, in the car", x.dish(0, 2), 2);
        check.due("heat", x.dish(0, 3), 1);
        check.due("weight, waiting", x.dish(1, 2), 5);
        check.due("heat", x.dish(1, 3), 59);
        x.minutes(3);
        check.due("weight, 1 at least", x.dish(0, 2), 1);
        check.due("heat, 0 at least", x.dish(0, 3), 0);
        x = Check.of("d3,2,9;s0,2,5,60;");
        x.minutes(2);
        x.pull(0);
        check.due("spilled twice", x.dish(0, 2), 3);
        x.pull(2);
        check.due("pulled by hand it does not spill", x.dish(0, 2), 3);
        x.minutes(1);
        check.due("served", x.dish(0, 2) * 100 + x.dish(0, 3), 358);
    }

    private static void roasts() {
        DishLift x = Check.of("d2,1,1;r0,1,9,3;");
        int[] due = {3, 2, 2, 1, 1, 0, 0, 0};
        for (int i = 0; i < due.length; i++) {
            x.minutes(1);
            check.due("roast behind " + (i + 1), x.dish(0, 3), due[i]);
        }
        check.due("weight", x.dish(0, 2), 9);
    }

    private static void ices() {
        DishLift x = Check.of("d2,1,1;i0,1,4,8;");
        int[] heat = {9, 10, 11, 12, 13};
        int[] weight = {4, 3, 2, 1, 1};
        for (int i = 0; i < heat.length; i++) {
            x.minutes(1);
            check.due("ice heat behind " + (i + 1), x.dish(0, 3), heat[i]);
            check.due("ice weight behind " + (i + 1), x.dish(0, 2), weight[i]);
        }
        check.due("in, when light enough", x.dish(0, 0), 10);
    }

    private static void coldAndHotEnds() {
        DishLift x = Check.of("d2,1,1;c1,0,9,59;i1,0,9,60;h1,0,9,1;s1,0,9,0;");
        x.minutes(2);
        check.due("cold, 60 at most", x.dish(0, 3), 60);
        check.due("cold does not melt", x.dish(0, 2), 9);
        check.due("ice, 60 at most", x.dish(1, 3), 60);
        check.due("ice melts", x.dish(1, 2), 7);
        check.due("hot", x.dish(2, 3), 0);
        check.due("soup", x.dish(3, 3), 0);
    }

    private static void good() {
        DishLift x = Check.of("d2,1,1;h0,1,1,20;s0,1,1,20;r0,1,1,19;h0,1,1,19;c0,1,1,10;i0,1,1,10;");
        int[] due = {1, 1, 0, 0, 1, 1};
        for (int d = 0; d < 6; d++) {
            check.due("good " + d, x.dish(d, 4), due[d]);
        }
        x = Check.of("d2,1,1;r0,1,1,20;c0,1,1,11;i0,1,1,11;c0,1,1,0;");
        check.due("roast", x.dish(0, 4), 1);
        check.due("cold", x.dish(1, 4), 0);
        check.due("ice", x.dish(2, 4), 0);
        check.due("cold 0", x.dish(3, 4), 1);
    }

    private static void minutesRefused() {
        DishLift x = new DishLift();
        check.due("no house", x.minutes(0), STATE);
        Check.tell(x, TWO);
        check.due("0", x.minutes(0), BAD);
        check.due("25", x.minutes(25), BAD);
        check.due("least", x.minutes(LEAST), BAD);
        check.due("most", x.minutes(MOST), BAD);
        for (int i = 0; i < 41; i++) {
            x.minutes(24);
        }
        check.due("MINUTE", x.count(3), 984);
        check.due("1000", x.minutes(16), FULL);
        check.due("BAD ahead of FULL", x.minutes(25), BAD);
        check.due("nothing changed", x.count(3), 984);
        check.due("999", x.minutes(15), 3);
        check.due("MINUTE", x.count(3), 999);
        check.due("1000", x.minutes(1), FULL);
        check.due("foretold beyond", x.later(60), 1);
        check.due("undo", x.undo(), 23);
        check.due("999", x.minutes(1), 3);
    }

    private static void pulls() {
        DishLift x = Check.of(TWO);
        check.due("there", x.pull(0), STATE);
        check.due("-1", x.pull(-1), BAD);
        check.due("4", x.pull(4), BAD);
        check.due("no act", x.count(7), 0);
        check.due("to 3", x.pull(3), 0);
        check.due("CAR", x.car(1), 3);
        check.due("to 1", x.pull(1), 3);
        check.due("acts", x.count(7), 2);
        check.due("MINUTE", x.count(3), 0);
    }

    private static void ropesAndRooms() {
        DishLift x = new DishLift();
        check.due("rope, no house", x.rope(0), STATE);
        check.due("room, no house", x.room(0), STATE);
        Check.tell(x, TWO);
        check.due("rope 0", x.rope(0), BAD);
        check.due("rope 41", x.rope(41), BAD);
        check.due("room 0", x.room(0), BAD);
        check.due("room 5", x.room(5), BAD);
        check.due("rope 40", x.rope(40), 9);
        check.due("rope 1", x.rope(1), 40);
        check.due("room 4", x.room(4), 1);
        check.due("room 1", x.room(1), 4);
        check.due("acts", x.count(7), 4);
        check.due("undo", x.undo(), 3);
        check.due("ROOM", x.car(3), 4);
        x.undo();
        x.undo();
        check.due("ROPE", x.car(4), 40);
    }

    private static void sends() {
        DishLift x = new DishLift();
        check.due("no house", x.send(0, 0, 0), BAD);
        Check.tell(x, TWO);
        check.due("it waits", x.send(0, 1, 1), STATE);
        x.minutes(1);
        check.due("it is in the car", x.send(0, 1, 1), STATE);
        x.minutes(5);
        check.due("dish 2", x.send(2, 1, 1), BAD);
        check.due("floor 4", x.send(0, 4, 1), BAD);
        check.due("floor -1", x.send(0, -1, 1), BAD);
        check.due("heat -1", x.send(0, 0, -1), BAD);
        check.due("heat 61", x.send(0, 0, 61), BAD);
        check.due("BAD ahead of STATE", x.send(0, 3, 61), BAD);
        check.due("on that floor", x.send(0, 3, 1), STATE);
        check.due("acts", x.count(7), 6);
        check.due("sent", x.send(0, 0, 60), 2);
        check.due("where", x.dish(0, 0), 3);
        check.due("TO", x.dish(0, 1), 0);
        check.due("HEAT", x.dish(0, 3), 60);
        check.due("WEIGHT", x.dish(0, 2), 2);
        check.due("CALLED", x.car(7), 8);
        check.due("the other, too", x.send(1, 0, 0), 0);
        check.due("acts", x.count(7), 8);
        check.due("undo", x.undo(), 7);
        check.due("SERVED", x.car(6), 2);
        x.undo();
        check.due("HEAT", x.dish(0, 3), 27);
        check.due("TO", x.dish(0, 1), 3);
    }

    private static void undone() {
        DishLift x = new DishLift();
        check.due("nothing", x.undo(), STATE);
        Check.tell(x, TWO);
        check.due("nothing", x.undo(), STATE);
        x.minutes(6);
        check.due("acts", x.count(7), 6);
        for (int left = 5; left >= 3; left--) {
            check.due("undo", x.undo(), left);
        }
        seen("behind 3 again", x, 3, 1, 1, 0, 4, 2);
        check.due("MINUTE", x.count(3), 3);
        check.due("HEAT", x.dish(0, 3), 27);
        check.due("and on", x.minutes(1), 1);
        seen("behind 4 again", x, 2, 0, 0, 1, 0, 0);
    }

    private static void ring() {
        DishLift x = Check.of("d9,1,9;h0,8,2,60;");
        x.pull(1);
        x.minutes(24);
        check.due("24 are kept", x.count(7), 24);
        x.pull(3);
        check.due("24 are kept", x.count(7), 24);
        for (int left = 23; left >= 0; left--) {
            check.due("undo", x.undo(), left);
        }
        check.due("the oldest are forgotten", x.undo(), STATE);
        check.due("MINUTE", x.count(3), 1);
        check.due("CAR", x.car(1), 0);
        x.minutes(3);
        check.due("kept anew", x.count(7), 3);
        x.undo();
        check.due("MINUTE", x.count(3), 3);
    }

    private static void images() {
        DishLift x = new DishLift();
        check.due("image -1", x.image(-1), BAD);
        check.due("restore -1", x.restore(-1), BAD);
        Check.tell(x, TWO);
        check.due("image 2", x.image(2), BAD);
        check.due("image most", x.image(MOST), BAD);
        check.due("restore 2", x.restore(2), BAD);
        check.due("restore least", x.restore(LEAST), BAD);
        check.due("none was kept", x.restore(1), STATE);
        x.minutes(3);
        check.due("image", x.image(1), 1);
        check.due("acts stay", x.count(7), 3);
        check.due("the other was not kept", x.restore(0), STATE);
        x.minutes(3);
        x.image(0);
        check.due("restore", x.restore(1), 1);
        seen("behind 3 again", x, 3, 1, 1, 0, 4, 2);
        check.due("no acts", x.undo(), STATE);
        Check.tell(x, "d2,1,1;h0,1,1,1;");
        check.due("of the house before", x.restore(0), 1);
        check.due("DISHES", x.count(1), 2);
        check.due("SERVED", x.car(6), 3);
        x.pull(3);
        check.due("the image stays as it was", x.restore(0), 1);
        check.due("CAR", x.car(1), 1);
        x.pull(0);
        x.image(0);
        x.pull(2);
        x.restore(0);
        check.due("kept anew", x.car(1), 0);
        check.due("the other one is its own", x.restore(1) * 10 + x.car(1), 13);
    }

    private static void counts() {
        DishLift x = Check.of("d4,1,9;h0,3,2,30;c2,1,1,5;i0,0,9,9;");
        x.row(2, 0, 0);
        x.feed(5);
        x.minutes(1);
        int[] due = {1, 3, 4, 1, 1, 1, 44, 1, 1};
        for (int what = 0; what < due.length; what++) {
            check.due("count " + what, x.count(what), due[what]);
        }
    }
}
