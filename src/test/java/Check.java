/** What the tests share: answers that are due, and texts that are fed. */
final class Check {
    private int wrong;
    private int all;
    private String about = "";

    /** What follows tests this sentence of the document, which is told with each answer that is not as due. */
    void sentence(String words) {
        about = "\"" + words + "\": ";
    }

    void due(String call, long got, long want) {
        all++;
        if (got != want) {
            wrong++;
            System.out.println(about + call + " answered " + got + ", due is " + want);
        }
    }

    void holds(String what, boolean so) {
        all++;
        if (!so) {
            wrong++;
            System.out.println(about + "not so: " + what);
        }
    }

    /** Feeds a text and answers what house() does. */
    static int tell(DishLift x, String text) {
        for (int i = 0; i < text.length(); i++) {
            x.feed(text.charAt(i));
        }
        return x.house();
    }

    static DishLift of(String text) {
        DishLift x = new DishLift();
        if (tell(x, text) < 0) {
            throw new IllegalArgumentException(text);
        }
        return x;
    }

    /** A house, and row 0 of ints with these items. */
    static DishLift withRow(String text, int... items) {
        DishLift x = of(text);
        x.row(0, 2, items.length);
        for (int i = 0; i < items.length; i++) {
            x.set(0, i, items[i]);
        }
        return x;
    }

    void end() {
        System.out.println(wrong == 0 ? all + " answers are as due" : wrong + " of " + all + " are not as due");
        if (wrong != 0) {
            System.exit(1);
        }
    }
}
