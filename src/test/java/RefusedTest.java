import java.util.ArrayList;
import java.util.List;
import java.util.function.Consumer;
import java.util.function.Supplier;
import java.util.function.ToLongFunction;

/**
 * "What is refused, or found, changes nothing but status()", and "FORETOLD (nothing changes)": each call is made on one
 * of two objects with the same past, and whatever can be seen of the two afterwards must be the same.
 */
public final class RefusedTest {
    private static final int BAD = DishLift.BAD, STATE = DishLift.STATE, FULL = DishLift.FULL;
    private static final int NULL = -1000011, PLACE = -1000012, KIND = -1000013, SIZE = -1000014, STORE = -1000015;
    private static final int LEAST = Integer.MIN_VALUE, MOST = Integer.MAX_VALUE;
    private static final Check check = new Check();
    private static final String REST = ",2,9;h0,0,1,7;";

    public static void main(String[] args) {
        refusedRows();
        foundRows();
        refusedText();
        refusedActs();
        refusedForetold();
        refusedImages();
        refusedAsked();
        refusedWithoutAHouse();
        refusedWhenFull();
        foretold();
        asked();
        check.end();
    }

    /**
     * One of each: three rows, a finding, a fault, a trace, an image, acts, dishes that wait, ride and are served, and
     * bytes on the tape to which REST gives a house.
     */
    private static DishLift busy() {
        DishLift x = Check.of("d5,2,9;s0,3,3,40;h0,0,2,30;r4,1,5,25;c4,0,6,5;");
        Check.tell(x, "d1,");
        x.image(1);
        x.row(0, 0, 3);
        x.set(0, 1, 39);
        x.row(1, 1, 2);
        x.set(1, 0, 38);
        x.row(2, 2, 40);
        x.set(2, 39, 9);
        x.minutes(2);
        x.rope(20);
        x.pull(1);
        x.ask(0, 0);
        x.as(0, 4);
        x.feed('d');
        x.feed('3');
        return x;
    }

    private static DishLift fresh() {
        DishLift x = new DishLift();
        x.row(0, 0, 3);
        x.set(0, 1, 39);
        x.drop(7);
        x.feed('d');
        x.feed('3');
        return x;
    }

    private static DishLift atTheLast() {
        DishLift x = Check.of("d5,2,9;s0,3,3,40;h0,0,2,30;");
        for (int k = 0; k < 41; k++) {
            x.minutes(24);
        }
        x.minutes(15);
        for (int k = 0; k < 20; k++) {
            x.undo();
        }
        x.minutes(20);
        for (int k = 0; k < 20; k++) {
            x.pull(k % 2 == 0 ? 1 : 0);
        }
        return x;
    }

    private static DishLift fullTape() {
        DishLift x = Check.of("d5,2,9;s0,3,3,40;");
        for (int i = 0; i < 110; i++) {
            x.feed('x');
        }
        return x;
    }

    private static void seeHouse(DishLift x, List<Long> seen) {
        for (int what = 0; what <= 8; what++) {
            seen.add((long) x.car(what));
        }
        for (int d = 0; d < x.count(1); d++) {
            for (int what = 0; what <= 3; what++) {
                seen.add((long) x.dish(d, what));
            }
            seen.add((long) x.kind(d));
        }
        seen.add((long) x.count(3));
    }

    /** All that can be seen but status(), at the cost of the object: what can be undone, restored, dropped is. */
    private static List<Long> all(DishLift x) {
        List<Long> seen = new ArrayList<>();
        for (int what = 0; what <= 8; what++) {
            seen.add((long) x.count(what));
        }
        seen.add((long) x.fault());
        for (int i = 0; i <= 7; i++) {
            seen.add((long) x.trace(i));
        }
        seeHouse(x, seen);
        int acts = x.count(7);
        for (int k = 0; k < acts; k++) {
            seen.add((long) x.undo());
            seen.add((long) x.car(1));
            seen.add((long) x.car(4));
            seen.add((long) x.count(3));
        }
        seen.add((long) x.undo());
        seeHouse(x, seen);
        for (int k = 0; k <= 1; k++) {
            seen.add((long) x.restore(k));
            seeHouse(x, seen);
        }
        seen.add((long) Check.tell(x, REST));
        x.minutes(1);
        for (int row = 0; row <= 3; row++) {
            for (int i : new int[] {0, 1, 2, 38, 39, 40}) {
                seen.add((long) x.who(0, 3, row, i, 1));
            }
            seen.add((long) x.set(row, 0, 70000));
            seen.add((long) x.drop(row));
        }
        return seen;
    }

    private static void same(Supplier<DishLift> made, String name, ToLongFunction<DishLift> call, long due, int status) {
        DishLift x = made.get();
        check.due(name, call.applyAsLong(x), due);
        check.due(name + ", status", x.status(), status);
        List<Long> got = all(x);
        List<Long> want = all(made.get());
        check.holds(name + " changes nothing:\n" + want + " became\n" + got, got.equals(want));
    }

    /** Refused: status() stays, too. */
    private static void refused(String name, ToLongFunction<DishLift> call, long due) {
        same(RefusedTest::busy, name, call, due, 3);
    }

    private static void found(String name, ToLongFunction<DishLift> call, int due) {
        same(RefusedTest::busy, name, call, due, -1000010 - due);
    }

    private static void nothing(String name, Consumer<DishLift> call) {
        same(RefusedTest::busy, name, x -> {
            call.accept(x);
            return 0;
        }, 0, 3);
    }

    private static void refusedRows() {
        check.sentence("What is refused changes nothing (rows)");
        for (int row : new int[] {-1, 8, LEAST, MOST}) {
            refused("row " + row, x -> x.row(row, 0, 1), BAD);
            refused("set " + row, x -> x.set(row, 0, 1), BAD);
            refused("copy a " + row, x -> x.copy(row, 0, 0, 0, 1), BAD);
            refused("copy b " + row, x -> x.copy(0, 0, row, 0, 1), BAD);
            refused("drop " + row, x -> x.drop(row), BAD);
            refused("who " + row, x -> x.who(0, 0, row, 0, 1), BAD);
        }
        for (int lane : new int[] {-1, 3, LEAST, MOST}) {
            refused("lane " + lane, x -> x.row(0, lane, 1), BAD);
        }
        refused("n 41", x -> x.row(0, 0, 41), BAD);
        refused("n most", x -> x.row(0, 0, MOST), BAD);
    }

    private static void foundRows() {
        check.sentence("What is found changes nothing but status()");
        found("row, SIZE", x -> x.row(0, 2, -1), SIZE);
        found("row, SIZE, missing", x -> x.row(3, 2, LEAST), SIZE);
        found("set, NULL", x -> x.set(3, 0, 5), NULL);
        found("set, PLACE", x -> x.set(0, 3, 5), PLACE);
        found("set, PLACE", x -> x.set(0, -1, 5), PLACE);
        found("copy, NULL", x -> x.copy(0, 0, 3, 0, 1), NULL);
        found("copy, NULL", x -> x.copy(3, 0, 0, 0, 1), NULL);
        found("copy, STORE", x -> x.copy(0, 0, 1, 0, 2), STORE);
        found("copy, PLACE", x -> x.copy(0, 0, 0, 1, 3), PLACE);
        found("copy, PLACE", x -> x.copy(0, 1, 0, 0, 3), PLACE);
        found("copy, PLACE", x -> x.copy(0, 1, 0, 0, -1), PLACE);
        found("drop, NULL", x -> x.drop(3), NULL);
        found("who, NULL", x -> x.who(0, 0, 3, 0, 1), NULL);
        found("who, PLACE", x -> x.who(0, 0, 0, 2, 2), PLACE);
        found("as, KIND", x -> x.as(1, 2), KIND);
    }

    private static void refusedText() {
        check.sentence("What is refused changes nothing (text)");
        for (int letter : new int[] {-1, 256, LEAST, MOST}) {
            refused("feed " + letter, x -> x.feed(letter), BAD);
        }
        same(RefusedTest::fullTape, "feed, FULL", x -> x.feed('d'), FULL, 0);
        same(RefusedTest::fullTape, "feed, BAD", x -> x.feed(-1), BAD, 0);
    }

    private static void refusedActs() {
        check.sentence("What is refused changes nothing (acts)");
        for (int n : new int[] {0, -1, 25, LEAST, MOST}) {
            refused("minutes " + n, x -> x.minutes(n), BAD);
        }
        for (int floor : new int[] {-1, 5, LEAST, MOST}) {
            refused("pull " + floor, x -> x.pull(floor), BAD);
            refused("send to " + floor, x -> x.send(1, floor, 9), BAD);
        }
        refused("pull to where it is", x -> x.pull(1), STATE);
        for (int v : new int[] {0, -1, LEAST, MOST}) {
            refused("rope " + v, x -> x.rope(v), BAD);
            refused("room " + v, x -> x.room(v), BAD);
        }
        refused("rope 41", x -> x.rope(41), BAD);
        refused("room 5", x -> x.room(5), BAD);
        for (int dish : new int[] {-1, 4, LEAST, MOST}) {
            refused("send " + dish, x -> x.send(dish, 1, 9), BAD);
        }
        for (int heat : new int[] {-1, 61, LEAST, MOST}) {
            refused("send, heat " + heat, x -> x.send(1, 1, heat), BAD);
        }
        refused("send one that is IN THE CAR", x -> x.send(0, 1, 9), STATE);
        refused("send one that WAITS", x -> x.send(2, 2, 9), STATE);
        refused("send to where it is", x -> x.send(1, 0, 9), STATE);
    }

    private static void refusedForetold() {
        check.sentence("What is refused changes nothing (foretold)");
        for (int v : new int[] {-1, 99, LEAST, MOST}) {
            refused("ahead, dish " + v, x -> x.ahead(v, 1, 0), BAD);
            refused("ahead, n " + v, x -> x.ahead(0, v, 0), BAD);
            refused("ahead, what " + v, x -> x.ahead(0, 1, v), BAD);
            refused("later " + v, x -> x.later(v), BAD);
            refused("when " + v, x -> x.when(v), BAD);
            refused("fine " + v, x -> x.fine(v), BAD);
            refused("site, n " + v, x -> x.site(v, 0), BAD);
            refused("site, what " + v, x -> x.site(9, v), BAD);
            refused("need, n " + v, x -> x.need(v, 0), BAD);
            refused("need, what " + v, x -> x.need(9, v), BAD);
            refused("ranks, n " + v, x -> x.ranks(v, 0), BAD);
            refused("holds " + v, x -> x.holds(v), BAD);
            refused("share, dish " + v, x -> x.share(v, 9), BAD);
            refused("byTurns, n " + v, x -> x.byTurns(v, 9), BAD);
            refused("byTurns, m " + v, x -> x.byTurns(2, v), BAD);
            refused("who, dish " + v, x -> x.who(v, 0, 0, 0, 1), BAD);
            refused("who, which " + v, x -> x.who(0, v, 0, 0, 1), BAD);
            refused("who, n " + v, x -> x.who(0, 0, 0, 0, v), BAD);
            refused("stuck, dish " + v, x -> x.stuck(v, 1, 1, 0), BAD);
            refused("stuck, n " + v, x -> x.stuck(0, v, 1, 0), BAD);
            refused("stuck, p " + v, x -> x.stuck(0, 1, v, 0), BAD);
            refused("stuck, what " + v, x -> x.stuck(0, 1, 1, v), BAD);
            refused("drawn, n " + v, x -> x.drawn(v, 1, 0), BAD);
            refused("drawn, what " + v, x -> x.drawn(1, 1, v), BAD);
        }
        refused("ranks, k -2", x -> x.ranks(9, -2), BAD);
        refused("ranks, none", x -> x.ranks(9, 4), DishLift.NONE);
        refused("share, n 1000", x -> x.share(0, 1000), BAD);
        refused("drawn, seed 0", x -> x.drawn(1, 0, 0), BAD);
        refused("drawn, seed 1000000", x -> x.drawn(1, 1000000, 0), BAD);
    }

    private static void refusedImages() {
        check.sentence("What is refused changes nothing (images)");
        for (int k : new int[] {-1, 2, LEAST, MOST}) {
            refused("image " + k, x -> x.image(k), BAD);
            refused("restore " + k, x -> x.restore(k), BAD);
        }
        refused("restore one that was not kept", x -> x.restore(0), STATE);
    }

    private static void refusedAsked() {
        check.sentence("What is refused changes nothing (asked)");
        for (int v : new int[] {-1, 6, 9, LEAST, MOST}) {
            refused("dish " + v, x -> x.dish(v, 0), BAD);
            refused("dish, what " + v, x -> x.dish(0, v), BAD);
            refused("kind " + v, x -> x.kind(v), BAD);
            refused("as " + v, x -> x.as(v, 0), BAD);
            refused("as, kind " + v, x -> x.as(0, v), BAD);
            refused("ask " + v, x -> x.ask(v, 0), BAD);
            refused("ask, what " + v, x -> x.ask(0, v), BAD);
            refused("trace " + v, x -> x.trace(v), DishLift.NONE);
        }
        for (int v : new int[] {-1, 9, LEAST, MOST}) {
            refused("car " + v, x -> x.car(v), BAD);
            refused("count " + v, x -> x.count(v), BAD);
        }
    }

    private static void houseless(String name, ToLongFunction<DishLift> call, int due) {
        same(RefusedTest::fresh, name, call, due, 1);
    }

    private static void refusedWithoutAHouse() {
        check.sentence("What is refused changes nothing (no HOUSE)");
        houseless("undo", x -> x.undo(), STATE);
        houseless("minutes", x -> x.minutes(1), STATE);
        houseless("pull", x -> x.pull(0), BAD);
        houseless("rope", x -> x.rope(1), STATE);
        houseless("room", x -> x.room(1), STATE);
        houseless("send", x -> x.send(0, 0, 0), BAD);
        houseless("dish", x -> x.dish(0, 0), BAD);
        houseless("car", x -> x.car(0), STATE);
        houseless("ahead", x -> x.ahead(0, 0, 0), BAD);
        houseless("later", x -> x.later(0), STATE);
        houseless("when", x -> x.when(0), BAD);
        houseless("done", x -> x.done(), STATE);
        houseless("fine", x -> x.fine(0), STATE);
        houseless("site", x -> x.site(1, 0), STATE);
        houseless("need", x -> x.need(1, 0), STATE);
        houseless("ranks", x -> x.ranks(1, -1), STATE);
        houseless("holds", x -> x.holds(0), STATE);
        houseless("share", x -> x.share(0, 0), BAD);
        houseless("byTurns", x -> x.byTurns(0, 1), STATE);
        houseless("who", x -> x.who(0, 0, 0, 0, 1), BAD);
        houseless("stuck", x -> x.stuck(0, 0, 0, 0), BAD);
        houseless("drawn", x -> x.drawn(0, 1, 0), STATE);
        houseless("image", x -> x.image(0), STATE);
        houseless("restore", x -> x.restore(0), STATE);
        houseless("kind", x -> x.kind(0), BAD);
        houseless("as", x -> x.as(0, 0), BAD);
        houseless("ask", x -> x.ask(0, 0), BAD);
    }

    private static void refusedWhenFull() {
        check.sentence("minutes. FULL: MINUTE would be above 999 (nothing changes)");
        for (int n : new int[] {1, 2, 24}) {
            same(RefusedTest::atTheLast, "minutes " + n, x -> x.minutes(n), FULL, 0);
        }
    }

    private static void foretold() {
        check.sentence("FORETOLD (nothing changes)");
        nothing("ahead", x -> x.ahead(0, 60, 0));
        nothing("later", x -> x.later(60));
        nothing("when", x -> x.when(2));
        nothing("done", x -> x.done());
        nothing("fine", x -> x.fine(60));
        nothing("site", x -> x.site(40, 0));
        nothing("site", x -> x.site(40, 1));
        nothing("need", x -> x.need(40, 0));
        nothing("need", x -> x.need(40, 1));
        nothing("ranks", x -> x.ranks(40, -1));
        nothing("ranks", x -> x.ranks(40, 3));
        nothing("holds", x -> x.holds(1));
        nothing("share", x -> x.share(0, 999));
        nothing("byTurns", x -> x.byTurns(4, 20));
        nothing("stuck", x -> x.stuck(2, 8, 5, 0));
        nothing("drawn", x -> x.drawn(60, 7, 1));
        for (int which = 0; which <= 5; which++) {
            int one = which;
            same(RefusedTest::busy, "who " + which, x -> {
                x.who(0, one, 0, 0, 3);
                return x.status();
            }, 0, 0);
        }
    }

    private static void asked() {
        check.sentence("What is asked changes nothing");
        nothing("dish", x -> x.dish(0, 4));
        nothing("car", x -> x.car(7));
        nothing("fault", x -> x.fault());
        nothing("kind", x -> x.kind(0));
        nothing("trace", x -> x.trace(0));
        nothing("count", x -> x.count(6));
        nothing("status", x -> x.status());
        same(RefusedTest::busy, "as", x -> x.as(1, 1), 1, 0);
    }
}
