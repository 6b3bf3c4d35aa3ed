/** What the tests share: answers that are due, and texts that are fed. */
final class Check {
    private int wrong;
    private int all;

    void due(String call, long got, long want) {
        all++;
        if (got != want) {
            wrong++;
            System.out.println(call + " answered " + got + ", due is " + want);
        }
    }

    void holds(String what, boolean so) {
        all++;
        if (!so) {
            wrong++;
            System.out.println("not so: " + what);
        }
    }

    /** Feeds a text and answers what house() does. */
    static int tell(DishLift x, String text) {
        for (int i = 0; i < text.length(); i++) {
            x.feed(text.charAt(i));
        }
        return x.house();
    }

    static DishLift of(String text) {
        DishLift x = new DishLift();
        if (tell(x, text) < 0) {
            throw new IllegalArgumentException(text);
        }
        return x;
    }

    void end() {
        System.out.println(wrong == 0 ? all + " answers are as due" : wrong + " of " + all + " are not as due");
        if (wrong != 0) {
            System.exit(1);
        }
    }
}
