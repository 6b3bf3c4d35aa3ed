import java.lang.reflect.InvocationTargetException;
import java.lang.reflect.Method;
import java.lang.reflect.Modifier;
import java.util.ArrayList;
import java.util.Comparator;
import java.util.List;
import java.util.Map;
import java.util.Random;
import java.util.TreeMap;

/** Runs of calls by draws, each call answered by the class and by the model: all promises, all edges. */
public final class ModelTest {
    private static final int CALLS = 512;
    private static final int[] EDGES = {-1, 0, 1, 2, 5, 6, 7, 8, 9, 12, 13, 20, 21, 24, 25, 40, 41, 60, 61, 110, 255,
        256, 999, 1000, 1000000, -2, Integer.MIN_VALUE, Integer.MAX_VALUE, Integer.MAX_VALUE - 1};
    /** By the names of the parameters: from, to. */
    private static final Map<String, int[][]> USUAL = Map.ofEntries(
        Map.entry("row", new int[][] {{0, 2}, {0, 1}, {0, 14}}),
        Map.entry("set", new int[][] {{0, 3}, {0, 13}, {0, 60}}),
        Map.entry("copy", new int[][] {{0, 2}, {0, 5}, {0, 2}, {0, 5}, {0, 4}}),
        Map.entry("drop", new int[][] {{0, 3}}),
        Map.entry("feed", new int[][] {{32, 127}}),
        Map.entry("minutes", new int[][] {{1, 6}}),
        Map.entry("pull", new int[][] {{0, 8}}),
        Map.entry("rope", new int[][] {{1, 40}}),
        Map.entry("room", new int[][] {{1, 4}}),
        Map.entry("send", new int[][] {{0, 5}, {0, 8}, {0, 60}}),
        Map.entry("dish", new int[][] {{0, 5}, {0, 4}}),
        Map.entry("car", new int[][] {{0, 8}}),
        Map.entry("ahead", new int[][] {{0, 5}, {0, 60}, {0, 2}}),
        Map.entry("later", new int[][] {{0, 60}}),
        Map.entry("when", new int[][] {{0, 5}}),
        Map.entry("fine", new int[][] {{0, 60}}),
        Map.entry("site", new int[][] {{1, 40}, {0, 1}}),
        Map.entry("need", new int[][] {{1, 40}, {0, 1}}),
        Map.entry("ranks", new int[][] {{1, 40}, {-1, 5}}),
        Map.entry("holds", new int[][] {{0, 2}}),
        Map.entry("share", new int[][] {{0, 5}, {0, 999}}),
        Map.entry("byTurns", new int[][] {{0, 4}, {1, 20}}),
        Map.entry("who", new int[][] {{0, 5}, {0, 5}, {0, 3}, {0, 9}, {1, 5}}),
        Map.entry("stuck", new int[][] {{0, 5}, {0, 8}, {0, 10}, {0, 1}}),
        Map.entry("drawn", new int[][] {{0, 60}, {1, 999999}, {0, 1}}),
        Map.entry("image", new int[][] {{0, 1}}),
        Map.entry("restore", new int[][] {{0, 1}}),
        Map.entry("kind", new int[][] {{0, 5}}),
        Map.entry("as", new int[][] {{0, 5}, {0, 5}}),
        Map.entry("ask", new int[][] {{0, 5}, {0, 1}}),
        Map.entry("trace", new int[][] {{0, 7}}),
        Map.entry("count", new int[][] {{0, 8}}));
    /** Answered so often that a run in which most are refused would show. */
    private static final Map<String, Integer> answered = new TreeMap<>();

    private final Random draw;
    private final DishLift x = new DishLift();
    private final Model model = new Model();
    private final List<String> calls = new ArrayList<>();

    private ModelTest(long seed) {
        draw = new Random(seed);
    }

    public static void main(String[] args) throws Exception {
        int runs = args.length > 0 ? Integer.parseInt(args[0]) : 60;
        long first = args.length > 1 ? Long.parseLong(args[1]) : 1;
        for (long seed = first; seed < first + runs; seed++) {
            if (!new ModelTest(seed).run()) {
                System.out.println("in the run of seed " + seed);
                System.exit(1);
            }
        }
        if (!answered.keySet().containsAll(USUAL.keySet())) {
            System.out.println("some call was always refused: " + answered);
            System.exit(1);
        }
        if (args.length > 0) {
            System.out.println(answered);
        }
        System.out.println(runs + " runs are as the model's");
    }

    private boolean run() throws Exception {
        List<Method> face = face();
        int used = 0;
        while (used < CALLS) {
            int pick = draw.nextInt(100);
            if (pick < 1 || used == 0) {
                String text = text();
                used += text.length();
                if (!tell(text)) {
                    return false;
                }
            } else if (pick < 7) {
                used += 10;
                if (pick < 5 ? !watched() : !ranked()) {
                    return false;
                }
            } else {
                used++;
                Method m = face.get(draw.nextInt(face.size()));
                if (m.getName().equals("feed") && draw.nextInt(4) > 0 || m.getName().equals("house")) {
                    continue;
                }
                if (!same(m.getName(), arguments(m))) {
                    return false;
                }
            }
        }
        return true;
    }

    private static List<Method> face() {
        List<Method> face = new ArrayList<>();
        for (Method m : DishLift.class.getDeclaredMethods()) {
            if (Modifier.isPublic(m.getModifiers())) {
                face.add(m);
                if (List.of("minutes", "send", "pull", "rope", "room", "undo").contains(m.getName())) {
                    face.add(m);
                }
            }
        }
        face.sort(Comparator.comparing(Method::getName));
        return face;
    }

    private int between(int[] ends) {
        return ends[0] + draw.nextInt(ends[1] - ends[0] + 1);
    }

    private Object[] arguments(Method m) {
        Object[] all = new Object[m.getParameterCount()];
        int odd = draw.nextInt(8) == 0 && all.length > 0 ? draw.nextInt(all.length) : -1;
        for (int i = 0; i < all.length; i++) {
            all[i] = i == odd ? EDGES[draw.nextInt(EDGES.length)] : between(USUAL.get(m.getName())[i]);
        }
        return all;
    }

    private boolean tell(String text) throws Exception {
        for (int i = 0; i < text.length(); i++) {
            if (!same("feed", (int) text.charAt(i))) {
                return false;
            }
        }
        return same("house") && same("fault");
    }

    /** A row that tells how hot a dish will be, or nearly so, and who() of it. */
    private boolean watched() throws Exception {
        int dish = draw.nextInt(6);
        int n = 1 + draw.nextInt(12);
        boolean so = same("row", 5, draw.nextInt(3), n);
        for (int i = 0; i < n && so; i++) {
            so = same("set", 5, i, Math.max(0, model.ahead(dish, i + 1, 1)) + (draw.nextInt(60) == 0 ? 1 : 0));
        }
        for (int which = 0; which < 6 && so; which++) {
            so = same("who", dish, which, 5, 0, n);
        }
        return so;
    }

    /** The best order with one n, again behind acts: what was found before must not be told of another house. */
    private boolean ranked() throws Exception {
        int n = 1 + draw.nextInt(40);
        boolean so = same("ranks", n, -1) && same("ranks", n, draw.nextInt(6));
        for (int k = 0; k < 3 && so; k++) {
            switch (draw.nextInt(5)) {
                case 0:
                    so = same("rope", 1 + draw.nextInt(40));
                    break;
                case 1:
                    so = same("room", 1 + draw.nextInt(4));
                    break;
                case 2:
                    so = same("pull", draw.nextInt(9));
                    break;
                case 3:
                    so = same("minutes", 1 + draw.nextInt(2));
                    break;
                default:
                    so = same("undo");
                    break;
            }
            so = so && same("ranks", n, -1) && same("ranks", n, draw.nextInt(6));
        }
        return so;
    }

    private String text() {
        int floors = 2 + draw.nextInt(8);
        StringBuilder text = new StringBuilder("d" + floors + "," + (1 + draw.nextInt(4)) + "," + (1 + draw.nextInt(40)) + ";");
        int dishes = draw.nextInt(8) == 0 ? 7 : 1 + draw.nextInt(6);
        int near = 1 + draw.nextInt(floors);
        for (int d = 0; d < dishes; d++) {
            text.append("hsrci".charAt(draw.nextInt(5))).append(draw.nextInt(near)).append(',');
            text.append(draw.nextInt(floors)).append(',').append(1 + draw.nextInt(9)).append(',');
            text.append(draw.nextInt(3) == 0 ? draw.nextInt(12) : draw.nextInt(61)).append(';');
        }
        if (draw.nextInt(3) == 0) {
            int at = draw.nextInt(text.length());
            String junk = "dhsrcixz0123456789,;; A" + (char) 200;
            switch (draw.nextInt(4)) {
                case 0:
                    text.setCharAt(at, junk.charAt(draw.nextInt(junk.length())));
                    break;
                case 1:
                    text.insert(at, junk.charAt(draw.nextInt(junk.length())));
                    break;
                case 2:
                    text.deleteCharAt(at);
                    break;
                default:
                    text.setLength(at);
                    break;
            }
        }
        return text.toString();
    }

    private boolean same(String name, Object... arguments) throws Exception {
        Class<?>[] types = new Class<?>[arguments.length];
        java.util.Arrays.fill(types, int.class);
        StringBuilder call = new StringBuilder(name + java.util.Arrays.toString(arguments));
        Object got;
        try {
            got = DishLift.class.getMethod(name, types).invoke(x, arguments);
        } catch (InvocationTargetException e) {
            got = e.getCause();
        }
        Object due = Model.class.getDeclaredMethod(name, types).invoke(model, arguments);
        calls.add(call + " = " + due);
        if (!got.equals(due)) {
            for (String before : calls) {
                System.out.println(before);
            }
            System.out.println("answered " + got);
            return false;
        }
        if (((Number) due).longValue() > -1000000) {
            answered.merge(name, 1, Integer::sum);
        }
        return true;
    }
}
