/** Promises 33 to 36: kind, as, ask, trace; and the constants. */
public final class AsksTest {
    private static final Check check = new Check();
    private static final int BAD = DishLift.BAD, NONE = DishLift.NONE, KIND = -1000013;
    private static final String ALL = "d9,1,40;h0,1,2,30;s0,1,3,31;r0,1,4,32;c0,1,5,33;i0,1,6,34;h0,1,9,60;";

    public static void main(String[] args) {
        constants();
        kinds();
        sizes();
        marks();
        askedOfWhatItIsNow();
        refused();
        check.end();
    }

    private static void constants() {
        check.due("NONE", DishLift.NONE, -1000000);
        check.due("BAD", DishLift.BAD, -1000001);
        check.due("STATE", DishLift.STATE, -1000002);
        check.due("FULL", DishLift.FULL, -1000003);
    }

    private static void kinds() {
        DishLift x = Check.of(ALL);
        int[] kind = {1, 2, 3, 4, 5, 1};
        int[][] is = {{0, 1}, {0, 1, 2}, {0, 1, 3}, {0, 4}, {0, 4, 5}, {0, 1}};
        for (int d = 0; d < 6; d++) {
            check.due("kind " + d, x.kind(d), kind[d]);
            for (int k = 0; k <= 5; k++) {
                boolean so = false;
                for (int one : is[d]) {
                    so |= one == k;
                }
                check.due("as " + d + " " + k, x.as(d, k), so ? d : KIND);
                check.due("status", x.status(), so ? 0 : 3);
            }
        }
    }

    private static void asked(DishLift x, int one, int what, int due, int... bodies) {
        String call = "ask " + one + " " + what;
        check.due(call, x.ask(one, what), due);
        for (int i = 0; i < bodies.length; i++) {
            check.due(call + " trace " + i, x.trace(i), bodies[i]);
        }
        check.due(call + " trace end", x.trace(bodies.length), NONE);
    }

    private static void sizes() {
        DishLift x = Check.of(ALL);
        asked(x, 0, 0, 2 + (0 + 30), 11, 10, 21, 20);
        asked(x, 1, 0, -(3 + 2 * (1 + 31)), 12, 11, 10, 24, 21, 20);
        asked(x, 2, 0, 4 + (2 + 32 - 1000), 11, 10, 22, 21, 20);
        asked(x, 3, 0, 5 - 100, 13, 10);
        asked(x, 4, 0, 2 * (6 - 100), 14, 13, 10);
        asked(x, 5, 0, 9 + (5 + 60), 11, 10, 21, 20);
    }

    private static void marks() {
        DishLift x = Check.of(ALL);
        asked(x, 0, 1, 0 + 30, 21, 20);
        asked(x, 1, 1, 2 * (1 + 31), 24, 21, 20);
        asked(x, 2, 1, 2 + 32 - 1000, 22, 21, 20);
        asked(x, 3, 1, 3 - (5 - 100), 23, 20, 13, 10);
        asked(x, 4, 1, 4 - 2 * (6 - 100), 23, 20, 14, 13, 10);
        asked(x, 5, 1, 5 + 60, 21, 20);
    }

    private static void askedOfWhatItIsNow() {
        DishLift x = Check.of("d3,1,9;s0,2,5,30;");
        x.minutes(1);
        asked(x, 0, 0, -(4 + 2 * 29), 12, 11, 10, 24, 21, 20);
        asked(x, 0, 1, 2 * 29, 24, 21, 20);
    }

    private static void refused() {
        DishLift x = Check.of(ALL);
        asked(x, 3, 0, -95, 13, 10);
        check.due("ask -1", x.ask(-1, 0), BAD);
        check.due("ask 6", x.ask(6, 0), BAD);
        check.due("what -1", x.ask(0, -1), BAD);
        check.due("what 2", x.ask(0, 2), BAD);
        check.due("the trace stays", x.trace(0), 13);
        check.due("trace -1", x.trace(-1), NONE);
        check.due("trace 16", x.trace(16), NONE);
        check.due("trace most", x.trace(Integer.MAX_VALUE), NONE);
        check.due("trace least", x.trace(Integer.MIN_VALUE), NONE);
        check.due("kind -1", x.kind(-1), BAD);
        check.due("kind 6", x.kind(6), BAD);
        check.due("as 6", x.as(6, 0), BAD);
        check.due("as kind 6", x.as(0, 6), BAD);
        check.due("as kind -1", x.as(0, -1), BAD);
    }
}
