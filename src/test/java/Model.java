import java.math.BigInteger;
import java.util.ArrayDeque;
import java.util.ArrayList;
import java.util.Arrays;
import java.util.List;
import java.util.function.Consumer;

/** The document once more, in another shape and without any care for speed, for ModelTest to compare with. */
final class Model {
    static final int NONE = -1000000, BAD = -1000001, STATE = -1000002, FULL = -1000003;

    /** Classes as the document tells the kinds; a body in a class is the one told for its kind. */
    static class Dish {
        int number, at, to, weight, heat;
        boolean inCar, served;
        List<Integer> trace = new ArrayList<>();

        int size() {
            trace.add(10);
            return weight;
        }

        int mark() {
            trace.add(20);
            return number;
        }

        boolean good() {
            return false;
        }

        void age(int minute, boolean went) {
        }

        int where() {
            return served ? 11 : inCar ? 10 : at;
        }

        Dish into(Dish d) {
            d.number = number;
            d.at = at;
            d.to = to;
            d.weight = weight;
            d.heat = heat;
            d.inCar = inCar;
            d.served = served;
            return d;
        }
    }

    static class Hot extends Dish {
        @Override int size() {
            trace.add(11);
            int plain = super.size();
            return plain + mark();
        }

        @Override int mark() {
            trace.add(21);
            return super.mark() + heat;
        }

        @Override boolean good() {
            return heat >= 20;
        }

        @Override void age(int minute, boolean went) {
            heat = heat == 0 ? 0 : heat - 1;
        }
    }

    static class Soup extends Hot {
        @Override int size() {
            trace.add(12);
            return 0 - super.size();
        }

        @Override int mark() {
            trace.add(24);
            return super.mark() * 2;
        }

        @Override void age(int minute, boolean went) {
            super.age(minute, went);
            if (inCar && went) {
                weight = Math.max(1, weight - 1);
            }
        }
    }

    static class Roast extends Hot {
        @Override int mark() {
            trace.add(22);
            return super.mark() - 1000;
        }

        @Override void age(int minute, boolean went) {
            if (minute % 2 == 1) {
                super.age(minute, went);
            }
        }
    }

    static class Cold extends Dish {
        @Override int size() {
            trace.add(13);
            return super.size() - 100;
        }

        @Override int mark() {
            trace.add(23);
            int plain = super.mark();
            return plain - size();
        }

        @Override boolean good() {
            return heat <= 10;
        }

        @Override void age(int minute, boolean went) {
            heat = Math.min(60, heat + 1);
        }
    }

    static class Ice extends Cold {
        @Override int size() {
            trace.add(14);
            return super.size() * 2;
        }

        @Override void age(int minute, boolean went) {
            super.age(minute, went);
            if (heat >= 10) {
                weight = Math.max(1, weight - 1);
            }
        }
    }

    static Dish ofKind(int kind) {
        switch (kind) {
            case 1: return new Hot();
            case 2: return new Soup();
            case 3: return new Roast();
            case 4: return new Cold();
            default: return new Ice();
        }
    }

    static int kindOf(Dish d) {
        return d instanceof Soup ? 2 : d instanceof Roast ? 3 : d instanceof Hot ? 1 : d instanceof Ice ? 5 : 4;
    }

    static final class World {
        int floors, room, rope, minute, car;
        boolean up = true;
        List<Dish> dishes = new ArrayList<>();

        World twin() {
            World w = new World();
            w.floors = floors;
            w.room = room;
            w.rope = rope;
            w.minute = minute;
            w.car = car;
            w.up = up;
            for (Dish d : dishes) {
                w.dishes.add(d.into(ofKind(kindOf(d))));
            }
            return w;
        }

        List<Dish> byNumber() {
            return new ArrayList<>(dishes);
        }

        int load() {
            return dishes.stream().filter(d -> d.inCar).mapToInt(d -> d.weight).sum();
        }

        boolean[] called() {
            boolean[] is = new boolean[floors];
            for (Dish d : dishes) {
                if (d.inCar) {
                    is[d.to] = true;
                }
                if (!d.inCar && !d.served && d.weight <= rope) {
                    is[d.at] = true;
                }
            }
            is[car] = false;
            return is;
        }

        boolean anyCalled(boolean above) {
            boolean[] is = called();
            boolean any = false;
            for (int f = 0; f < floors; f++) {
                any |= is[f] && (above ? f > car : f < car);
            }
            return any;
        }

        void minute(List<Dish> rank, boolean sticks) {
            boolean went = false;
            if (!sticks) {
                for (Dish d : dishes) {
                    boolean here = d.inCar || !d.served && d.at == car;
                    if (here && d.to == car) {
                        d.inCar = false;
                        d.served = true;
                    }
                }
                for (Dish d : rank) {
                    boolean waitsHere = !d.inCar && !d.served && d.at == car;
                    long in = dishes.stream().filter(o -> o.inCar).count();
                    if (waitsHere && in < room && load() + d.weight <= rope) {
                        d.inCar = true;
                    }
                }
                if (anyCalled(up)) {
                    went = true;
                } else if (anyCalled(!up)) {
                    up = !up;
                    went = true;
                }
                if (went) {
                    car += up ? 1 : -1;
                }
            }
            for (Dish d : dishes) {
                if (!d.served) {
                    d.age(minute, went);
                }
            }
            minute++;
        }

        World after(int n) {
            World w = twin();
            for (int k = 0; k < n; k++) {
                w.minute(w.byNumber(), false);
            }
            return w;
        }

        int bits(java.util.function.Predicate<Dish> p) {
            int bits = 0;
            for (Dish d : dishes) {
                bits += p.test(d) ? 1 << d.number : 0;
            }
            return bits;
        }

        int served() {
            return bits(d -> d.served);
        }

        boolean allServed() {
            return dishes.stream().allMatch(d -> d.served);
        }
    }

    private final int[][] rows = new int[8][];
    private final int[] lanes = new int[8];
    private final List<Integer> tape = new ArrayList<>();
    private final ArrayDeque<World> acts = new ArrayDeque<>();
    private final World[] images = new World[2];
    private List<Integer> trace = List.of();
    private World now;
    private int fault, status;

    private static boolean in(int v, int least, int most) {
        return least <= v && v <= most;
    }

    private int found(int number) {
        status = number;
        return -1000010 - number;
    }

    private int ok(int answer) {
        status = 0;
        return answer;
    }

    private boolean isDish(int d) {
        return now != null && in(d, 0, now.dishes.size() - 1);
    }

    private boolean isFloor(int f) {
        return now != null && in(f, 0, now.floors - 1);
    }

    int row(int row, int lane, int n) {
        if (!in(row, 0, 7) || !in(lane, 0, 2) || n > 40) {
            return BAD;
        }
        if (n < 0) {
            return found(4);
        }
        rows[row] = new int[n];
        lanes[row] = lane;
        return ok(n);
    }

    int set(int row, int i, int v) {
        if (!in(row, 0, 7)) {
            return BAD;
        }
        if (rows[row] == null) {
            return found(1);
        }
        if (!in(i, 0, rows[row].length - 1)) {
            return found(2);
        }
        int unused = lanes[row] == 0 ? 24 : lanes[row] == 1 ? 16 : 0;
        rows[row][i] = v << unused >> unused;
        return ok(rows[row][i]);
    }

    int copy(int a, int i, int b, int j, int n) {
        if (!in(a, 0, 7) || !in(b, 0, 7)) {
            return BAD;
        }
        if (rows[a] == null || rows[b] == null) {
            return found(1);
        }
        if (lanes[a] != lanes[b]) {
            return found(5);
        }
        if (i < 0 || j < 0 || n < 0 || (long) i + n > rows[a].length || (long) j + n > rows[b].length) {
            return found(2);
        }
        int[] was = Arrays.copyOfRange(rows[a], i, i + n);
        for (int k = 0; k < n; k++) {
            rows[b][j + k] = was[k];
        }
        return ok(n);
    }

    int drop(int row) {
        if (!in(row, 0, 7)) {
            return BAD;
        }
        if (rows[row] == null) {
            return found(1);
        }
        int had = rows[row].length;
        rows[row] = null;
        return ok(had);
    }

    int feed(int letter) {
        if (!in(letter, 0, 255)) {
            return BAD;
        }
        if (tape.size() == 110) {
            return FULL;
        }
        tape.add(letter);
        return tape.size();
    }

    /** A token: what it is (a letter, a sign, 0 a number, -1 none, -2 the end), where, how much. */
    private record Token(int what, int place, int value) {
    }

    private List<Token> tokens() {
        List<Token> all = new ArrayList<>();
        int i = 0;
        while (i < tape.size()) {
            int c = tape.get(i);
            int j = i + 1;
            if (c >= '0' && c <= '9') {
                int value = c - '0';
                while (j < tape.size() && tape.get(j) >= '0' && tape.get(j) <= '9') {
                    value = value * 10 + tape.get(j) - '0';
                    j++;
                }
                all.add(new Token(j - i > 2 ? -1 : 0, i, value));
            } else {
                all.add(new Token(c >= 'a' && c <= 'z' || c == ',' || c == ';' ? c : -1, i, 0));
            }
            i = j;
        }
        all.add(new Token(-2, tape.size(), 0));
        return all;
    }

    /** Walks the tokens by what may stand at each; the pattern of a statement is letter 0,0,..; */
    int house() {
        List<Token> all = tokens();
        tape.clear();
        World w = new World();
        List<Integer> values = new ArrayList<>();
        int kind = 0;
        int step = 0;
        boolean law = true;
        for (Token t : all) {
            int last = law ? 6 : 8;
            if (step == 0) {
                if (t.what == -2 && !w.dishes.isEmpty()) {
                    now = w;
                    acts.clear();
                    return w.dishes.size();
                }
                kind = t.what > 0 ? " hsrci".indexOf(t.what) : -1;
                if (law ? t.what != 'd' : kind < 1) {
                    return faulty(1, t);
                }
                if (!law && w.dishes.size() == 6) {
                    return faulty(3, t);
                }
                values.clear();
            } else if (step % 2 == 1) {
                if (t.what != 0) {
                    return faulty(1, t);
                }
                int[][] told = law ? new int[][] {{2, 9}, {1, 4}, {1, 40}}
                        : new int[][] {{0, w.floors - 1}, {0, w.floors - 1}, {1, 9}, {0, 60}};
                if (!in(t.value, told[step / 2][0], told[step / 2][1])) {
                    return faulty(2, t);
                }
                values.add(t.value);
            } else if (t.what != (step == last ? ';' : ',')) {
                return faulty(1, t);
            }
            step++;
            if (step > last) {
                if (law) {
                    w.floors = values.get(0);
                    w.room = values.get(1);
                    w.rope = values.get(2);
                } else {
                    Dish d = ofKind(kind);
                    d.number = w.dishes.size();
                    d.at = values.get(0);
                    d.to = values.get(1);
                    d.weight = values.get(2);
                    d.heat = values.get(3);
                    w.dishes.add(d);
                }
                law = false;
                step = 0;
            }
        }
        throw new IllegalStateException();
    }

    private int faulty(int number, Token t) {
        fault = number;
        return -1000100 - t.place;
    }

    int fault() {
        return fault;
    }

    int undo() {
        if (acts.isEmpty()) {
            return STATE;
        }
        now = acts.removeLast();
        return acts.size();
    }

    private void act(Consumer<World> what) {
        acts.addLast(now.twin());
        if (acts.size() > 24) {
            acts.removeFirst();
        }
        what.accept(now);
    }

    int minutes(int n) {
        if (now == null) {
            return STATE;
        }
        if (!in(n, 1, 24)) {
            return BAD;
        }
        if (now.minute + n > 999) {
            return FULL;
        }
        for (int k = 0; k < n; k++) {
            act(w -> w.minute(w.byNumber(), false));
        }
        return now.served();
    }

    int pull(int floor) {
        if (!isFloor(floor)) {
            return BAD;
        }
        if (now.car == floor) {
            return STATE;
        }
        int was = now.car;
        act(w -> w.car = floor);
        return was;
    }

    int rope(int v) {
        if (now == null) {
            return STATE;
        }
        if (!in(v, 1, 40)) {
            return BAD;
        }
        int was = now.rope;
        act(w -> w.rope = v);
        return was;
    }

    int room(int v) {
        if (now == null) {
            return STATE;
        }
        if (!in(v, 1, 4)) {
            return BAD;
        }
        int was = now.room;
        act(w -> w.room = v);
        return was;
    }

    private static void sendBack(Dish d, int floor, int heat) {
        d.served = false;
        d.inCar = false;
        d.at = d.to;
        d.to = floor;
        d.heat = heat;
    }

    int send(int dish, int floor, int heat) {
        if (!isDish(dish) || !isFloor(floor) || !in(heat, 0, 60)) {
            return BAD;
        }
        Dish d = now.dishes.get(dish);
        if (!d.served || d.to == floor) {
            return STATE;
        }
        act(w -> sendBack(w.dishes.get(dish), floor, heat));
        return now.served();
    }

    int dish(int dish, int what) {
        if (!isDish(dish) || !in(what, 0, 4)) {
            return BAD;
        }
        Dish d = now.dishes.get(dish);
        return new int[] {d.where(), d.to, d.weight, d.heat, d.good() ? 1 : 0}[what];
    }

    int car(int what) {
        if (now == null) {
            return STATE;
        }
        if (!in(what, 0, 8)) {
            return BAD;
        }
        int calls = 0;
        boolean[] is = now.called();
        for (int f = 0; f < is.length; f++) {
            calls += is[f] ? 1 << f : 0;
        }
        return new int[] {now.floors, now.car, now.up ? 1 : 0, now.room, now.rope, now.bits(d -> d.inCar),
            now.served(), calls, now.load()}[what];
    }

    int ahead(int dish, int n, int what) {
        if (!isDish(dish) || !in(n, 0, 60) || !in(what, 0, 2)) {
            return BAD;
        }
        Dish d = now.after(n).dishes.get(dish);
        return new int[] {d.where(), d.heat, d.weight}[what];
    }

    int later(int n) {
        if (now == null) {
            return STATE;
        }
        return in(n, 0, 60) ? now.after(n).car : BAD;
    }

    int when(int dish) {
        if (!isDish(dish)) {
            return BAD;
        }
        for (int n = 0; n <= 60; n++) {
            if (now.after(n).dishes.get(dish).served) {
                return n;
            }
        }
        return NONE;
    }

    int done() {
        if (now == null) {
            return STATE;
        }
        for (int n = 0; n <= 60; n++) {
            if (now.after(n).allServed()) {
                return n;
            }
        }
        return NONE;
    }

    int fine(int n) {
        if (now == null) {
            return STATE;
        }
        return in(n, 0, 60) ? now.after(n).bits(d -> d.served && d.good()) : BAD;
    }

    int site(int n, int what) {
        if (now == null) {
            return STATE;
        }
        if (!in(n, 1, 40) || !in(what, 0, 1)) {
            return BAD;
        }
        int best = 0;
        long most = -1;
        for (int f = now.floors - 1; f >= 0; f--) {
            World w = now.twin();
            w.car = f;
            long many = w.after(n).dishes.stream().filter(d -> d.served && d.good()).count();
            if (many >= most) {
                most = many;
                best = f;
            }
        }
        return what == 0 ? best : (int) most;
    }

    int need(int n, int what) {
        if (now == null) {
            return STATE;
        }
        if (!in(n, 1, 40) || !in(what, 0, 1)) {
            return BAD;
        }
        for (int v = 1; v <= (what == 0 ? 4 : 40); v++) {
            World w = now.twin();
            if (what == 0) {
                w.room = v;
            } else {
                w.rope = v;
            }
            if (w.after(n).allServed()) {
                return v;
            }
        }
        return NONE;
    }

    private static void orders(List<Integer> begun, int count, List<List<Integer>> all) {
        if (begun.size() == count) {
            all.add(new ArrayList<>(begun));
        }
        for (int d = 0; d < count; d++) {
            if (!begun.contains(d)) {
                begun.add(d);
                orders(begun, count, all);
                begun.remove(begun.size() - 1);
            }
        }
    }

    int ranks(int n, int k) {
        if (now == null) {
            return STATE;
        }
        if (!in(n, 1, 40) || k < -1) {
            return BAD;
        }
        if (k >= now.dishes.size()) {
            return NONE;
        }
        List<List<Integer>> all = new ArrayList<>();
        orders(new ArrayList<>(), now.dishes.size(), all);
        int least = Integer.MAX_VALUE;
        List<Integer> best = null;
        for (List<Integer> order : all) {
            World w = now.twin();
            List<Dish> rank = new ArrayList<>();
            int[] until = new int[w.dishes.size()];
            for (int d : order) {
                rank.add(w.dishes.get(d));
                until[d] = w.dishes.get(d).served ? 0 : n + 1;
            }
            for (int t = 1; t <= n; t++) {
                w.minute(rank, false);
                for (Dish d : w.dishes) {
                    if (d.served && until[d.number] == n + 1) {
                        until[d.number] = t;
                    }
                }
            }
            int sum = Arrays.stream(until).sum();
            if (sum < least) {
                least = sum;
                best = order;
            }
        }
        return k < 0 ? least : best.get(k);
    }

    int holds(int what) {
        if (now == null) {
            return STATE;
        }
        if (!in(what, 0, 2)) {
            return BAD;
        }
        int many = 0;
        int[] best = {-1, 0, 0};
        for (int bits = (1 << now.dishes.size()) - 1; bits >= 0; bits--) {
            int weight = 0;
            int count = 0;
            boolean may = true;
            for (Dish d : now.dishes) {
                if ((bits & 1 << d.number) != 0) {
                    may &= !d.served;
                    weight += d.weight;
                    count++;
                }
            }
            if (may && count <= now.room && weight <= now.rope) {
                many++;
                if (weight > best[0] || weight == best[0] && count >= best[1]) {
                    best = new int[] {weight, count, bits};
                }
            }
        }
        return new int[] {many, best[2], best[0]}[what];
    }

    int share(int dish, int n) {
        if (!isDish(dish) || !in(n, 0, 999)) {
            return BAD;
        }
        int all = now.dishes.stream().filter(d -> !d.served).mapToInt(d -> d.heat).sum();
        if (all == 0 || now.dishes.get(dish).served) {
            return 0;
        }
        int[] gets = new int[now.dishes.size()];
        int over = n;
        for (Dish d : now.dishes) {
            if (!d.served) {
                gets[d.number] = n * d.heat / all;
                over -= gets[d.number];
            }
        }
        for (Dish d : now.dishes) {
            if (!d.served && d.heat > 0 && over > 0) {
                gets[d.number]++;
                over--;
            }
        }
        if (over != 0) {
            throw new IllegalStateException();
        }
        return gets[dish];
    }

    private int turns(World w, boolean cook, int left, int m) {
        if (left == 0) {
            return w.after(m).dishes.stream().filter(d -> d.served).mapToInt(d -> d.heat).sum();
        }
        List<Integer> comes = new ArrayList<>();
        comes.add(turns(w, !cook, left - 1, m));
        World pulled = w.twin();
        pulled.car += cook ? -1 : 1;
        if (in(pulled.car, 0, w.floors - 1)) {
            comes.add(turns(pulled, !cook, left - 1, m));
        }
        return comes.stream().reduce(cook ? Math::max : Math::min).get();
    }

    int byTurns(int n, int m) {
        if (now == null) {
            return STATE;
        }
        return in(n, 0, 4) && in(m, 1, 20) ? turns(now, true, n, m) : BAD;
    }

    private boolean told(World w, int dish, int[] items) {
        World v = w.twin();
        boolean so = true;
        for (int item : items) {
            v.minute(v.byNumber(), false);
            so &= v.dishes.get(dish).heat == item;
        }
        return so;
    }

    int who(int dish, int which, int row, int i, int n) {
        if (!isDish(dish) || !in(which, 0, 5) || !in(row, 0, 7) || !in(n, 1, 12)) {
            return BAD;
        }
        if (rows[row] == null) {
            return found(1);
        }
        if (i < 0 || (long) i + n > rows[row].length) {
            return found(2);
        }
        int[] items = Arrays.copyOfRange(rows[row], i, i + n);
        List<Integer> fit = new ArrayList<>();
        for (int v = 0; v <= 60; v++) {
            World w = now.twin();
            boolean may;
            if (which == 0) {
                may = in(v, 1, 5);
                if (may) {
                    w.dishes.set(dish, w.dishes.get(dish).into(ofKind(v)));
                }
            } else if (which == 1) {
                may = in(v, 0, w.floors - 1);
                w.car = v;
            } else if (which <= 3) {
                may = true;
                w.dishes.get(dish).heat = v;
            } else {
                may = in(v, 1, 40);
                w.rope = v;
            }
            if (may && told(w, dish, items)) {
                fit.add(v);
            }
        }
        if (which < 2) {
            return ok(fit.stream().mapToInt(v -> 1 << v).sum());
        }
        return ok(which % 2 == 0 ? fit.size() : fit.isEmpty() ? NONE : fit.get(0));
    }

    long stuck(int dish, int n, int p, int what) {
        if (!isDish(dish) || !in(n, 0, 8) || !in(p, 0, 10) || !in(what, 0, 1)) {
            return BAD;
        }
        BigInteger above = BigInteger.ZERO;
        for (int sticks = 0; sticks < 1 << n; sticks++) {
            World w = now.twin();
            long cases = 1;
            for (int k = 0; k < n; k++) {
                boolean so = (sticks >> k & 1) == 1;
                w.minute(w.byNumber(), so);
                cases *= so ? p : 10 - p;
            }
            if (w.dishes.get(dish).served) {
                above = above.add(BigInteger.valueOf(cases));
            }
        }
        BigInteger below = BigInteger.TEN.pow(n);
        BigInteger common = above.gcd(below);
        return (what == 0 ? above : below).divide(common).longValueExact();
    }

    int drawn(int n, int seed, int what) {
        if (now == null) {
            return STATE;
        }
        if (!in(n, 0, 60) || !in(seed, 1, 999999) || !in(what, 0, 1)) {
            return BAD;
        }
        World w = now.twin();
        BigInteger x = BigInteger.valueOf(seed);
        int anew = 0;
        for (int k = 0; k < n; k++) {
            x = x.multiply(BigInteger.valueOf(16807)).mod(BigInteger.valueOf(2147483647));
            int v = x.intValueExact();
            Dish d = w.dishes.get(v % w.dishes.size());
            int floor = v % w.floors;
            if (d.served) {
                sendBack(d, floor, v % 61);
            } else if (v % 4 == 0) {
                w.car = floor;
            }
            int before = Integer.bitCount(w.served());
            w.minute(w.byNumber(), false);
            anew += Integer.bitCount(w.served()) - before;
        }
        return what == 0 ? anew : w.dishes.stream().mapToInt(d -> d.heat).sum();
    }

    int image(int k) {
        if (!in(k, 0, 1)) {
            return BAD;
        }
        if (now == null) {
            return STATE;
        }
        images[k] = now.twin();
        return 1;
    }

    int restore(int k) {
        if (!in(k, 0, 1)) {
            return BAD;
        }
        if (images[k] == null) {
            return STATE;
        }
        now = images[k].twin();
        acts.clear();
        return 1;
    }

    int kind(int one) {
        return isDish(one) ? kindOf(now.dishes.get(one)) : BAD;
    }

    int as(int one, int kind) {
        if (!isDish(one) || !in(kind, 0, 5)) {
            return BAD;
        }
        Class<?>[] kinds = {Dish.class, Hot.class, Soup.class, Roast.class, Cold.class, Ice.class};
        return kinds[kind].isInstance(now.dishes.get(one)) ? ok(one) : found(3);
    }

    int ask(int one, int what) {
        if (!isDish(one) || !in(what, 0, 1)) {
            return BAD;
        }
        Dish d = now.dishes.get(one);
        d.trace = new ArrayList<>();
        int answer = what == 0 ? d.size() : d.mark();
        trace = d.trace;
        return answer;
    }

    int trace(int i) {
        return in(i, 0, Math.min(16, trace.size()) - 1) ? trace.get(i) : NONE;
    }

    int count(int what) {
        if (!in(what, 0, 8)) {
            return BAD;
        }
        int present = (int) Arrays.stream(rows).filter(r -> r != null).count();
        if (now == null) {
            return new int[] {present, 0, 0, 0, 0, 0, 0, 0, tape.size()}[what];
        }
        int waiting = (int) now.dishes.stream().filter(d -> !d.served && !d.inCar).count();
        int served = (int) now.dishes.stream().filter(d -> d.served).count();
        int heat = now.dishes.stream().mapToInt(d -> d.heat).sum();
        return new int[] {present, now.dishes.size(), now.floors, now.minute, waiting, served, heat, acts.size(),
            tape.size()}[what];
    }

    int status() {
        return status;
    }
}
