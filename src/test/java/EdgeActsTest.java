/** The edges of acts and images, promises 9, 11 to 14, 31 and 32: a method a sentence. */
public final class EdgeActsTest {
    private static final int BAD = DishLift.BAD, STATE = DishLift.STATE;
    private static final int LEAST = Integer.MIN_VALUE, MOST = Integer.MAX_VALUE;
    private static final Check check = new Check();
    /** The hot one is served behind 4 minutes with 27, the cold one behind 6 with 10. */
    private static final String TWO = "d4,1,9;h0,3,2,30;c2,1,1,5;";

    public static void main(String[] args) {
        undoNone();
        undoTellsHowManyYet();
        undoTheLatestFirst();
        twentyFourAreKept();
        theOldestIsForgotten();
        manyMinutesForgetAll();
        keptAnewBehindUndo();
        refusedIsNoAct();
        pullBad();
        pullWithoutAHouse();
        pullWhereItIs();
        pullKeepsTheRest();
        ropeBad();
        ropeWithoutAHouse();
        ropeTellsWhatItWas();
        roomBad();
        roomWithoutAHouse();
        roomTellsWhatItWas();
        sendBad();
        sendWithoutAHouse();
        sendOneThatIsNotServed();
        sendToWhereItIs();
        sendBadAheadOfState();
        sentBack();
        sentBackHeats();
        imageBad();
        imageWithoutAHouse();
        imagesThereAre();
        imageOfAnyMinute();
        imageInPlaceOfTheOneBefore();
        restoreBad();
        restoreNone();
        restoreAsItWasKept();
        restoreForgetsActs();
        restoreAgain();
        restoreOfAnotherHouse();
        check.end();
    }

    private static void undoNone() {
        check.sentence("undo. STATE: none");
        DishLift x = new DishLift();
        check.due("no HOUSE", x.undo(), STATE);
        Check.tell(x, TWO);
        check.due("no ACT yet", x.undo(), STATE);
        x.pull(1);
        x.undo();
        check.due("all are undone", x.undo(), STATE);
        check.due("again", x.undo(), STATE);
        check.due("FLOOR", x.car(1), 0);
    }

    private static void undoTellsHowManyYet() {
        check.sentence("The latest ACT is undone: how many can be undone yet");
        DishLift x = Check.of(TWO);
        x.minutes(3);
        for (int yet = 2; yet >= 0; yet--) {
            check.due("undo", x.undo(), yet);
            check.due("count(7)", x.count(7), yet);
            check.due("MINUTE", x.count(3), yet);
        }
    }

    /** All that an act may change: FLOOR, WAY, ROOM, ROPE, IN, SERVED, HEAT of all, MINUTE. */
    private static String seen(DishLift x) {
        StringBuilder all = new StringBuilder();
        for (int what = 1; what <= 8; what++) {
            all.append(x.car(what)).append(' ');
        }
        for (int d = 0; d < x.count(1); d++) {
            for (int what = 0; what <= 3; what++) {
                all.append(x.dish(d, what)).append(' ');
            }
        }
        return all.append(x.count(3)).toString();
    }

    private static void undoTheLatestFirst() {
        check.sentence("ACTS: a MINUTE; THE CAR is pulled; ROPE, ROOM is another; one that is SERVED is sent back "
            + "(each can be undone, the latest first)");
        DishLift x = Check.of(TWO);
        String[] before = new String[10];
        for (int k = 0; k < 4; k++) {
            before[k] = seen(x);
            x.minutes(1);
        }
        before[4] = seen(x);
        check.due("pull", x.pull(0), 2);
        before[5] = seen(x);
        check.due("rope", x.rope(5), 9);
        before[6] = seen(x);
        check.due("room", x.room(3), 1);
        before[7] = seen(x);
        check.due("send", x.send(0, 1, 59), 0);
        before[8] = seen(x);
        check.due("a MINUTE", x.minutes(1), 0);
        before[9] = seen(x);
        for (int k = 8; k >= 0; k--) {
            check.due("undo of ACT " + k, x.undo(), k);
            check.holds("as ahead of ACT " + k + ": " + before[k], seen(x).equals(before[k]));
        }
        check.holds("each ACT was seen", !before[4].equals(before[5]) && !before[5].equals(before[6])
            && !before[6].equals(before[7]) && !before[7].equals(before[8]) && !before[8].equals(before[9]));
    }

    private static void pulls(DishLift x, int n) {
        for (int k = 0; k < n; k++) {
            x.pull((x.car(1) + 1) % 9);
        }
    }

    private static void twentyFourAreKept() {
        check.sentence("24 at most are kept");
        DishLift x = Check.of("d9,1,1;h0,8,9,60;");
        for (int n = 1; n <= 30; n++) {
            pulls(x, 1);
            check.due("ACTS behind " + n, x.count(7), Math.min(n, 24));
        }
        x = Check.of("d9,1,1;h0,8,9,60;");
        pulls(x, 24);
        for (int yet = 23; yet >= 0; yet--) {
            check.due("undo", x.undo(), yet);
        }
        check.due("just 24: FLOOR at first", x.car(1), 0);
        check.due("no more", x.undo(), STATE);
    }

    private static void theOldestIsForgotten() {
        check.sentence("of more the oldest is forgotten");
        for (int more = 1; more <= 26; more++) {
            DishLift x = Check.of("d9,1,1;h0,8,9,60;");
            pulls(x, 24 + more);
            for (int k = 0; k < 24; k++) {
                x.undo();
            }
            check.due(more + " more: FLOOR", x.car(1), more % 9);
            check.due(more + " more: none is left", x.undo(), STATE);
        }
    }

    private static void manyMinutesForgetAll() {
        check.sentence("24 at most are kept, of more the oldest is forgotten (MINUTES)");
        DishLift x = Check.of("d9,1,1;h0,8,9,60;");
        x.rope(2);
        x.minutes(24);
        check.due("ACTS", x.count(7), 24);
        for (int k = 0; k < 24; k++) {
            x.undo();
        }
        check.due("MINUTE", x.count(3), 0);
        check.due("ROPE stays", x.car(4), 2);
        check.due("none is left", x.undo(), STATE);
    }

    private static void keptAnewBehindUndo() {
        check.sentence("each can be undone, the latest first (behind others that were undone)");
        DishLift x = Check.of("d9,1,1;h0,8,9,60;");
        pulls(x, 30);
        for (int k = 0; k < 5; k++) {
            x.undo();
        }
        check.due("FLOOR", x.car(1), 25 % 9);
        check.due("ACTS", x.count(7), 19);
        pulls(x, 4);
        check.due("ACTS", x.count(7), 23);
        for (int yet = 22; yet >= 0; yet--) {
            check.due("undo", x.undo(), yet);
            check.due("FLOOR", x.car(1), (6 + yet) % 9);
        }
        check.due("none is left", x.undo(), STATE);
    }

    private static void refusedIsNoAct() {
        check.sentence("What is refused changes nothing (ACTS)");
        DishLift x = Check.of(TWO);
        x.minutes(4);
        x.pull(2);
        x.pull(4);
        x.rope(0);
        x.rope(41);
        x.room(0);
        x.room(5);
        x.send(0, 3, 5);
        x.send(1, 3, 5);
        x.send(0, 3, 61);
        x.minutes(0);
        x.minutes(25);
        x.image(2);
        x.restore(0);
        check.due("ACTS", x.count(7), 4);
        check.due("the latest is yet a MINUTE", x.undo(), 3);
        check.due("MINUTE", x.count(3), 3);
    }

    private static void pullBad() {
        check.sentence("THE CAR is pulled to a FLOOR: where it was. BAD");
        for (int floors = 2; floors <= 9; floors++) {
            DishLift x = Check.of("d" + floors + ",1,1;h0,1,1,1;");
            for (int floor : new int[] {-1, floors, 9, 10, 11, LEAST, MOST}) {
                check.due("floor " + floor + " of " + floors, x.pull(floor), BAD);
            }
            check.due("to the top", x.pull(floors - 1), 0);
            check.due("to the kitchen", x.pull(0), floors - 1);
        }
    }

    private static void pullWithoutAHouse() {
        check.sentence("pull. BAD (without a HOUSE there are no FLOORS)");
        DishLift x = new DishLift();
        for (int floor : new int[] {-1, 0, 1, 9}) {
            check.due("floor " + floor, x.pull(floor), BAD);
        }
    }

    private static void pullWhereItIs() {
        check.sentence("pull. STATE: it is there");
        DishLift x = Check.of(TWO);
        check.due("at first", x.pull(0), STATE);
        x.minutes(2);
        check.due("behind MINUTES", x.pull(2), STATE);
        x.pull(3);
        check.due("behind a pull", x.pull(3), STATE);
        x.undo();
        check.due("behind undo", x.pull(2), STATE);
    }

    private static void pullKeepsTheRest() {
        check.sentence("THE CAR is pulled to a FLOOR (WAY stays)");
        DishLift x = Check.of("d4,1,9;s0,3,5,30;c2,1,1,5;");
        x.minutes(1);
        check.due("down, past one that waits", x.pull(0), 1);
        check.due("WAY up", x.car(2), 1);
        check.due("it is IN THE CAR yet", x.car(5), 1);
        check.due("WEIGHT", x.dish(0, 2), 4);
        check.due("HEAT", x.dish(0, 3), 29);
        check.due("MINUTE", x.count(3), 1);
        x.pull(3);
        check.due("not SERVED till a MINUTE passes", x.car(6), 0);
        x.minutes(1);
        check.due("WAY down", x.car(2), 0);
        x.pull(3);
        check.due("WAY down, pulled up", x.car(2), 0);
    }

    private static void ropeBad() {
        check.sentence("ROPE (1 to 40). BAD");
        DishLift x = Check.of(TWO);
        for (int v : new int[] {0, -1, 41, LEAST, MOST}) {
            check.due("rope " + v, x.rope(v), BAD);
        }
        check.due("ROPE stays", x.car(4), 9);
        for (int v = 1; v <= 40; v++) {
            check.due("rope " + v, x.rope(v), v == 1 ? 9 : v - 1);
            check.due("ROPE", x.car(4), v);
        }
    }

    private static void ropeWithoutAHouse() {
        check.sentence("rope. STATE: no HOUSE (ahead of BAD)");
        DishLift x = new DishLift();
        for (int v : new int[] {0, 1, 40, 41, LEAST, MOST}) {
            check.due("rope " + v, x.rope(v), STATE);
        }
    }

    private static void ropeTellsWhatItWas() {
        check.sentence("ROPE: what it was");
        DishLift x = Check.of(TWO);
        check.due("9 to 40", x.rope(40), 9);
        check.due("the same", x.rope(40), 40);
        check.due("40 to 1", x.rope(1), 40);
        check.due("ROOM stays", x.car(3), 1);
        x.undo();
        check.due("undone", x.car(4), 40);
    }

    private static void roomBad() {
        check.sentence("ROOM (1 to 4). BAD");
        DishLift x = Check.of(TWO);
        for (int v : new int[] {0, -1, 5, 40, LEAST, MOST}) {
            check.due("room " + v, x.room(v), BAD);
        }
        check.due("ROOM stays", x.car(3), 1);
        for (int v = 1; v <= 4; v++) {
            check.due("room " + v, x.room(v), v == 1 ? 1 : v - 1);
            check.due("ROOM", x.car(3), v);
        }
    }

    private static void roomWithoutAHouse() {
        check.sentence("room. STATE: no HOUSE (ahead of BAD)");
        DishLift x = new DishLift();
        for (int v : new int[] {0, 1, 4, 5, LEAST, MOST}) {
            check.due("room " + v, x.room(v), STATE);
        }
    }

    private static void roomTellsWhatItWas() {
        check.sentence("ROOM: what it was");
        DishLift x = Check.of(TWO);
        check.due("1 to 4", x.room(4), 1);
        check.due("the same", x.room(4), 4);
        check.due("4 to 1", x.room(1), 4);
        check.due("ROPE stays", x.car(4), 9);
        x.undo();
        check.due("undone", x.car(3), 4);
    }

    private static DishLift served() {
        DishLift x = Check.of(TWO);
        x.minutes(6);
        return x;
    }

    private static void sendBad() {
        check.sentence("Sent back to another FLOOR, HEAT (0 to 60). BAD");
        DishLift x = served();
        for (int dish : new int[] {-1, 2, 6, LEAST, MOST}) {
            check.due("dish " + dish, x.send(dish, 0, 9), BAD);
        }
        for (int floor : new int[] {-1, 4, 10, 11, LEAST, MOST}) {
            check.due("floor " + floor, x.send(0, floor, 9), BAD);
        }
        for (int heat : new int[] {-1, 61, LEAST, MOST}) {
            check.due("heat " + heat, x.send(0, 0, heat), BAD);
        }
        check.due("all are SERVED yet", x.car(6), 3);
    }

    private static void sendWithoutAHouse() {
        check.sentence("send. BAD (there is no such thing)");
        DishLift x = new DishLift();
        check.due("no HOUSE", x.send(0, 0, 0), BAD);
        check.due("no HOUSE", x.send(0, 1, 30), BAD);
    }

    private static void sendOneThatIsNotServed() {
        check.sentence("send. STATE: it is not SERVED");
        DishLift x = Check.of(TWO);
        check.due("it WAITS", x.send(0, 1, 9), STATE);
        x.minutes(1);
        check.due("it is IN THE CAR", x.send(0, 1, 9), STATE);
        check.due("the other WAITS", x.send(1, 0, 9), STATE);
        check.due("it is not SERVED, and for that FLOOR", x.send(0, 3, 9), STATE);
        x.minutes(3);
        check.due("it is SERVED", x.send(0, 1, 9), 0);
        check.due("it WAITS again", x.send(0, 2, 9), STATE);
    }

    private static void sendToWhereItIs() {
        check.sentence("send. STATE: it is on that FLOOR");
        DishLift x = served();
        check.due("dish 0 is on 3", x.send(0, 3, 9), STATE);
        check.due("dish 1 is on 1", x.send(1, 1, 9), STATE);
        check.due("where THE CAR is matters not", x.send(0, x.car(1), 9), 2);
    }

    private static void sendBadAheadOfState() {
        check.sentence("send. the first of these that fits: BAD, STATE");
        DishLift x = Check.of(TWO);
        check.due("HEAT, and it is not SERVED", x.send(0, 1, 61), BAD);
        check.due("FLOOR, and it is not SERVED", x.send(0, 4, 9), BAD);
        x.minutes(6);
        check.due("HEAT, and it is on that FLOOR", x.send(0, 3, -1), BAD);
    }

    private static void sentBack() {
        check.sentence("it WAITS on the FLOOR on which it was, for another FLOOR, so hot: which are SERVED then (bits)");
        DishLift x = served();
        check.due("the first", x.send(0, 2, 44), 2);
        int[] due = {3, 2, 2, 44, 1};
        for (int what = 0; what <= 4; what++) {
            check.due("dish " + what, x.dish(0, what), due[what]);
        }
        check.due("it WAITS", x.count(4), 1);
        check.due("the FLOOR calls", x.car(7), 8);
        check.due("FLOOR of THE CAR stays", x.car(1), 1);
        check.due("the other, too", x.send(1, 0, 0), 0);
        check.due("an ACT each", x.count(7), 8);
        check.due("both are SERVED anew", x.minutes(24), 3);
        check.due("on 2 now", x.send(0, 2, 9), STATE);
        check.due("back to 3", x.send(0, 3, 9), 2);
        check.due("it WAITS on 2", x.dish(0, 0), 2);
    }

    private static void sentBackHeats() {
        check.sentence("send: HEAT (0 to 60)");
        DishLift x = served();
        x.send(0, 0, 0);
        check.due("0", x.dish(0, 3), 0);
        x.undo();
        check.due("undone", x.dish(0, 3), 27);
        x.send(0, 0, 60);
        check.due("60", x.dish(0, 3), 60);
        DishLift soup = Check.of("d2,1,9;s0,1,5,30;");
        soup.minutes(2);
        soup.send(0, 0, 30);
        check.due("WEIGHT is not filled up", soup.dish(0, 2), 4);
    }

    private static void imageBad() {
        check.sentence("An IMAGE (0, 1) is kept of the HOUSE: 1. BAD, ahead of STATE");
        DishLift x = new DishLift();
        for (int k : new int[] {-1, 2, LEAST, MOST}) {
            check.due("no HOUSE, image " + k, x.image(k), BAD);
        }
        Check.tell(x, TWO);
        for (int k : new int[] {-1, 2, LEAST, MOST}) {
            check.due("image " + k, x.image(k), BAD);
        }
        check.due("none was kept", x.restore(0), STATE);
        check.due("none was kept", x.restore(1), STATE);
    }

    private static void imageWithoutAHouse() {
        check.sentence("image. STATE: no HOUSE");
        DishLift x = new DishLift();
        check.due("image 0", x.image(0), STATE);
        check.due("image 1", x.image(1), STATE);
        Check.tell(x, TWO);
        check.due("none was kept by it", x.restore(0), STATE);
    }

    private static void imagesThereAre() {
        check.sentence("An IMAGE (0, 1)");
        DishLift x = Check.of(TWO);
        check.due("image 0", x.image(0), 1);
        x.pull(3);
        check.due("image 1", x.image(1), 1);
        x.pull(2);
        check.due("restore 0", x.restore(0) * 10 + x.car(1), 10);
        check.due("restore 1", x.restore(1) * 10 + x.car(1), 13);
        check.due("restore 0 again", x.restore(0) * 10 + x.car(1), 10);
    }

    private static void imageOfAnyMinute() {
        check.sentence("An IMAGE is kept of the HOUSE: 1 (nothing else changes)");
        DishLift x = Check.of(TWO);
        x.minutes(4);
        String before = seen(x);
        check.due("image", x.image(0), 1);
        check.holds("as before", seen(x).equals(before));
        check.due("ACTS stay", x.count(7), 4);
        check.due("undo", x.undo(), 3);
        check.due("the IMAGE stays behind undo", x.restore(0), 1);
        check.holds("as it was kept", seen(x).equals(before));
    }

    private static void imageInPlaceOfTheOneBefore() {
        check.sentence("An IMAGE is kept (in place of the one before)");
        DishLift x = Check.of(TWO);
        x.image(0);
        x.pull(3);
        check.due("again", x.image(0), 1);
        x.pull(1);
        x.restore(0);
        check.due("FLOOR", x.car(1), 3);
    }

    private static void restoreBad() {
        check.sentence("restore. BAD, ahead of STATE");
        DishLift x = new DishLift();
        for (int k : new int[] {-1, 2, LEAST, MOST}) {
            check.due("restore " + k, x.restore(k), BAD);
        }
        Check.tell(x, TWO);
        x.image(0);
        x.image(1);
        for (int k : new int[] {-1, 2, LEAST, MOST}) {
            check.due("restore " + k, x.restore(k), BAD);
        }
    }

    private static void restoreNone() {
        check.sentence("restore. STATE: none was kept");
        DishLift x = new DishLift();
        check.due("no HOUSE, 0", x.restore(0), STATE);
        check.due("no HOUSE, 1", x.restore(1), STATE);
        Check.tell(x, TWO);
        x.pull(3);
        x.image(0);
        check.due("the other", x.restore(1), STATE);
        check.due("FLOOR stays", x.car(1), 3);
        check.due("ACTS stay", x.count(7), 1);
    }

    private static void restoreAsItWasKept() {
        check.sentence("The HOUSE is as an IMAGE kept it: 1");
        DishLift x = Check.of("d9,2,9;s0,8,9,60;i3,1,5,9;r8,0,2,30;");
        x.minutes(5);
        String kept = seen(x);
        x.image(1);
        x.minutes(10);
        x.rope(40);
        x.room(4);
        x.pull(7);
        check.holds("another HOUSE by then", !seen(x).equals(kept));
        check.due("restore", x.restore(1), 1);
        check.holds("as it was kept: " + kept, seen(x).equals(kept));
    }

    private static void restoreForgetsActs() {
        check.sentence("restore (no ACT can be undone then)");
        DishLift x = Check.of(TWO);
        x.pull(1);
        x.image(0);
        x.minutes(24);
        x.restore(0);
        check.due("ACTS", x.count(7), 0);
        check.due("undo", x.undo(), STATE);
        x.pull(2);
        check.due("one anew", x.undo(), 0);
        check.due("FLOOR", x.car(1), 1);
    }

    private static void restoreAgain() {
        check.sentence("The HOUSE is as an IMAGE kept it (the IMAGE stays)");
        DishLift x = Check.of(TWO);
        x.image(0);
        for (int k = 0; k < 3; k++) {
            x.minutes(6);
            check.due("restore", x.restore(0), 1);
            check.due("MINUTE", x.count(3), 0);
            check.due("HEAT", x.count(6), 35);
        }
    }

    private static void restoreOfAnotherHouse() {
        check.sentence("The HOUSE is as an IMAGE kept it (behind another text)");
        DishLift x = Check.of("d4,1,9;h0,3,2,30;s1,2,1,5;");
        x.minutes(1);
        x.image(0);
        String kept = seen(x);
        Check.tell(x, "d9,4,40;i8,7,6,5;i8,7,6,5;i8,7,6,5;");
        check.due("restore", x.restore(0), 1);
        check.holds("as it was kept: " + kept, seen(x).equals(kept));
        check.due("FLOORS", x.car(0), 4);
        check.due("DISHES", x.count(1), 2);
        check.due("kinds", x.kind(0) * 10 + x.kind(1), 12);
        check.due("no dish 2", x.kind(2), BAD);
        Check.tell(x, "d1,");
        check.due("behind a fault", x.restore(0), 1);
    }
}
