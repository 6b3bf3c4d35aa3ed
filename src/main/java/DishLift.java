import java.util.Arrays;

/** A dumb-waiter in a house: dishes, the car that carries them, and what can be foretold of both. */
public final class DishLift {
    public static final int NONE = -1000000, BAD = -1000001, STATE = -1000002, FULL = -1000003;

    private static final int FINDINGS = -1000010, FAULTS = -1000100;
    private static final int NULL = 1, PLACE = 2, KIND = 3, SIZE = 4, STORE = 5;
    private static final int LAST_MINUTE = 999, FAR = 60, NEAR = 40, IMAGES = 2;

    private final Rows rows = new Rows();
    private final Tape tape = new Tape();
    private final House now = new House();
    private final House told = new House();
    private final Acts acts = new Acts();
    private final House[] images = new House[IMAGES];
    private final Foretold foretold = new Foretold();
    private final Orders orders = new Orders();
    private final Asks asks = new Asks();
    private int finding;

    public DishLift() {
        finding = 0;
    }

    // ---- rows

    public int row(int row, int lane, int n) {
        if (!Rows.isRow(row) || !Rows.isLane(lane) || n > Rows.LONGEST) {
            return BAD;
        }
        if (n < 0) {
            return found(SIZE);
        }
        rows.begin(row, lane, n);
        return foundNothing(n);
    }

    public int set(int row, int i, int v) {
        if (!Rows.isRow(row)) {
            return BAD;
        }
        if (rows.isMissing(row)) {
            return found(NULL);
        }
        if (!rows.covers(row, i, 1)) {
            return found(PLACE);
        }
        return foundNothing(rows.put(row, i, v));
    }

    public int copy(int a, int i, int b, int j, int n) {
        if (!Rows.isRow(a) || !Rows.isRow(b)) {
            return BAD;
        }
        if (rows.isMissing(a) || rows.isMissing(b)) {
            return found(NULL);
        }
        if (rows.lane[a] != rows.lane[b]) {
            return found(STORE);
        }
        if (!rows.covers(a, i, n) || !rows.covers(b, j, n)) {
            return found(PLACE);
        }
        System.arraycopy(rows.items[a], i, rows.items[b], j, n);
        return foundNothing(n);
    }

    public int drop(int row) {
        if (!Rows.isRow(row)) {
            return BAD;
        }
        if (rows.isMissing(row)) {
            return found(NULL);
        }
        return foundNothing(rows.lose(row));
    }

    // ---- what is told

    public int feed(int letter) {
        if (letter < 0 || letter > 255) {
            return BAD;
        }
        return tape.isFull() ? FULL : tape.add(letter);
    }

    public int house() {
        if (!tape.tells(told)) {
            return FAULTS - tape.place;
        }
        now.become(told);
        acts.forget();
        return now.dishes;
    }

    public int fault() {
        return tape.fault;
    }

    public int undo() {
        return acts.isEmpty() ? STATE : acts.takeBack(now);
    }

    // ---- what is done

    public int minutes(int n) {
        if (!now.stands()) {
            return STATE;
        }
        if (n < 1 || n > Acts.MOST) {
            return BAD;
        }
        if (now.minute + n > LAST_MINUTE) {
            return FULL;
        }
        for (int k = 0; k < n; k++) {
            acts.keep(now);
            now.pass(House.BY_NUMBER, false);
        }
        return now.served();
    }

    public int pull(int floor) {
        if (!now.isFloor(floor)) {
            return BAD;
        }
        if (now.floor == floor) {
            return STATE;
        }
        acts.keep(now);
        int was = now.floor;
        now.floor = floor;
        return was;
    }

    public int rope(int v) {
        if (!now.stands()) {
            return STATE;
        }
        if (v < 1 || v > House.STRONGEST) {
            return BAD;
        }
        acts.keep(now);
        int was = now.rope;
        now.rope = v;
        return was;
    }

    public int room(int v) {
        if (!now.stands()) {
            return STATE;
        }
        if (v < 1 || v > House.WIDEST) {
            return BAD;
        }
        acts.keep(now);
        int was = now.room;
        now.room = v;
        return was;
    }

    public int send(int dish, int floor, int heat) {
        if (!now.isDish(dish) || !now.isFloor(floor) || heat < 0 || heat > House.HOTTEST) {
            return BAD;
        }
        if (now.at[dish] != House.SERVED || now.to[dish] == floor) {
            return STATE;
        }
        acts.keep(now);
        now.sendBack(dish, floor, heat);
        return now.served();
    }

    public int dish(int dish, int what) {
        if (!now.isDish(dish)) {
            return BAD;
        }
        switch (what) {
            case 0: return now.at[dish];
            case 1: return now.to[dish];
            case 2: return now.weight[dish];
            case 3: return now.heat[dish];
            case 4: return now.isGood(dish) ? 1 : 0;
            default: return BAD;
        }
    }

    public int car(int what) {
        if (!now.stands()) {
            return STATE;
        }
        switch (what) {
            case 0: return now.floors;
            case 1: return now.floor;
            case 2: return now.way;
            case 3: return now.room;
            case 4: return now.rope;
            case 5: return now.those(House.IN_CAR);
            case 6: return now.served();
            case 7: return now.called();
            case 8: return now.weightOf(now.those(House.IN_CAR));
            default: return BAD;
        }
    }

    // ---- foretold

    public int ahead(int dish, int n, int what) {
        if (!now.isDish(dish) || isOutside(n, 0, FAR) || isOutside(what, 0, 2)) {
            return BAD;
        }
        House then = foretold.behind(now, n);
        if (what == 0) {
            return then.at[dish];
        }
        return what == 1 ? then.heat[dish] : then.weight[dish];
    }

    public int later(int n) {
        if (!now.stands()) {
            return STATE;
        }
        return isOutside(n, 0, FAR) ? BAD : foretold.behind(now, n).floor;
    }

    public int when(int dish) {
        return now.isDish(dish) ? foretold.firstServed(now, 1 << dish, FAR) : BAD;
    }

    public int done() {
        return now.stands() ? foretold.firstServed(now, now.all(), FAR) : STATE;
    }

    public int fine(int n) {
        if (!now.stands()) {
            return STATE;
        }
        return isOutside(n, 0, FAR) ? BAD : foretold.behind(now, n).servedGood();
    }

    public int site(int n, int what) {
        if (!now.stands()) {
            return STATE;
        }
        if (isOutside(n, 1, NEAR) || isOutside(what, 0, 1)) {
            return BAD;
        }
        int best = foretold.bestStand(now, n);
        return what == 0 ? best : foretold.goodFrom(now, best, n);
    }

    public int need(int n, int what) {
        if (!now.stands()) {
            return STATE;
        }
        if (isOutside(n, 1, NEAR) || isOutside(what, 0, 1)) {
            return BAD;
        }
        return what == 0 ? foretold.leastRoom(now, n) : foretold.leastRope(now, n);
    }

    public int ranks(int n, int k) {
        if (!now.stands()) {
            return STATE;
        }
        if (isOutside(n, 1, NEAR) || k < -1) {
            return BAD;
        }
        if (k >= now.dishes) {
            return NONE;
        }
        orders.search(now, n);
        return k < 0 ? orders.least : orders.best[k];
    }

    public int holds(int what) {
        if (!now.stands()) {
            return STATE;
        }
        switch (what) {
            case 0: return Foretold.loads(now);
            case 1: return Foretold.fullestLoad(now);
            case 2: return now.weightOf(Foretold.fullestLoad(now));
            default: return BAD;
        }
    }

    public int share(int dish, int n) {
        if (!now.isDish(dish) || isOutside(n, 0, 999)) {
            return BAD;
        }
        return Foretold.shareOf(now, dish, n);
    }

    public int byTurns(int n, int m) {
        if (!now.stands()) {
            return STATE;
        }
        if (isOutside(n, 0, Foretold.MOST_TURNS) || isOutside(m, 1, 20)) {
            return BAD;
        }
        return foretold.played(now, n, m);
    }

    public int who(int dish, int which, int row, int i, int n) {
        if (!now.isDish(dish) || isOutside(which, 0, 5) || !Rows.isRow(row) || isOutside(n, 1, 12)) {
            return BAD;
        }
        if (rows.isMissing(row)) {
            return found(NULL);
        }
        if (!rows.covers(row, i, n)) {
            return found(PLACE);
        }
        return foundNothing(foretold.allThatFits(now, dish, which, rows.items[row], i, n));
    }

    public long stuck(int dish, int n, int p, int what) {
        if (!now.isDish(dish) || isOutside(n, 0, Foretold.MOST_STUCK) || isOutside(p, 0, 10) || isOutside(what, 0, 1)) {
            return BAD;
        }
        long above = foretold.casesServed(now, dish, n, p);
        long below = Foretold.casesInAll(n);
        long common = Foretold.commonDivisor(above, below);
        return (what == 0 ? above : below) / common;
    }

    public int drawn(int n, int seed, int what) {
        if (!now.stands()) {
            return STATE;
        }
        if (isOutside(n, 0, FAR) || isOutside(seed, 1, 999999) || isOutside(what, 0, 1)) {
            return BAD;
        }
        int servedAnew = foretold.draw(now, n, seed);
        return what == 0 ? servedAnew : foretold.trial.heatOf(now.all());
    }

    public int image(int k) {
        if (isOutside(k, 0, IMAGES - 1)) {
            return BAD;
        }
        if (!now.stands()) {
            return STATE;
        }
        if (images[k] == null) {
            images[k] = new House();
        }
        images[k].become(now);
        return 1;
    }

    public int restore(int k) {
        if (isOutside(k, 0, IMAGES - 1)) {
            return BAD;
        }
        if (images[k] == null) {
            return STATE;
        }
        now.become(images[k]);
        acts.forget();
        return 1;
    }

    // ---- asked

    public int kind(int one) {
        return now.isDish(one) ? now.kind[one] : BAD;
    }

    public int as(int one, int kind) {
        if (!now.isDish(one) || !Asks.isKind(kind)) {
            return BAD;
        }
        return Asks.isOne(now.kind[one], kind) ? foundNothing(one) : found(KIND);
    }

    public int ask(int one, int what) {
        if (!now.isDish(one) || isOutside(what, Asks.SIZES, Asks.MARKS)) {
            return BAD;
        }
        return asks.answer(now, one, what);
    }

    public int trace(int i) {
        return i < 0 || i >= asks.left ? NONE : asks.numbers[i];
    }

    public int count(int what) {
        switch (what) {
            case 0: return rows.present();
            case 1: return now.dishes;
            case 2: return now.floors;
            case 3: return now.minute;
            case 4: return Integer.bitCount(now.all() & ~now.served() & ~now.those(House.IN_CAR));
            case 5: return Integer.bitCount(now.served());
            case 6: return now.heatOf(now.all());
            case 7: return acts.kept;
            case 8: return tape.length;
            default: return BAD;
        }
    }

    public int status() {
        return finding;
    }

    private int found(int number) {
        finding = number;
        return FINDINGS - number;
    }

    private int foundNothing(int answer) {
        finding = 0;
        return answer;
    }

    private static boolean isOutside(int v, int least, int most) {
        return v < least || v > most;
    }

    /** The rows; a row that is missing has no lane. */
    private static final class Rows {
        static final int MOST = 8, LONGEST = 40, MISSING = -1, BYTES = 0, SHORTS = 1, INTS = 2;

        final int[] lane = new int[MOST];
        final int[] length = new int[MOST];
        final int[][] items = new int[MOST][LONGEST];

        Rows() {
            Arrays.fill(lane, MISSING);
        }

        static boolean isRow(int row) {
            return row >= 0 && row < MOST;
        }

        static boolean isLane(int lane) {
            return lane >= BYTES && lane <= INTS;
        }

        boolean isMissing(int row) {
            return lane[row] == MISSING;
        }

        /** Whether n items from i on are all there (i + n could wrap around, so it is not built). */
        boolean covers(int row, int i, int n) {
            return n >= 0 && i >= 0 && i <= length[row] - n;
        }

        void begin(int row, int newLane, int n) {
            lane[row] = newLane;
            length[row] = n;
            Arrays.fill(items[row], 0);
        }

        int put(int row, int i, int v) {
            int cut = v;
            if (lane[row] == BYTES) {
                cut = (byte) v;
            } else if (lane[row] == SHORTS) {
                cut = (short) v;
            }
            items[row][i] = cut;
            return cut;
        }

        int lose(int row) {
            lane[row] = MISSING;
            return length[row];
        }

        int present() {
            int sum = 0;
            for (int row = 0; row < MOST; row++) {
                sum += isMissing(row) ? 0 : 1;
            }
            return sum;
        }
    }

    /** The tape, and how a house is read from it, token by token up to the first fault. */
    private static final class Tape {
        static final int MOST = 110, MISPLACED = 1, WRONG_NUMBER = 2, TOO_MANY = 3;

        final int[] bytes = new int[MOST];
        int length;
        int place;
        int fault;
        private int value;

        boolean isFull() {
            return length >= MOST;
        }

        int add(int letter) {
            if (length < MOST) {
                bytes[length] = letter;
                length++;
            }
            return length;
        }

        /** Empties the tape in any case; what stands in the house is of use only if it answers true. */
        boolean tells(House told) {
            place = 0;
            boolean whole = readLaw(told) && readDishes(told);
            length = 0;
            return whole;
        }

        private boolean readLaw(House told) {
            if (!readByte('d') || !readNumber(2, House.HIGHEST, ',')) {
                return false;
            }
            int floors = value;
            if (!readNumber(1, House.WIDEST, ',')) {
                return false;
            }
            int room = value;
            if (!readNumber(1, House.STRONGEST, ';')) {
                return false;
            }
            told.build(floors, room, value);
            return true;
        }

        private boolean readDishes(House told) {
            for (int d = 0; d <= House.MOST; d++) {
                if (!readDish(told, d)) {
                    return false;
                }
                if (place >= length) {
                    return true;
                }
            }
            return false;
        }

        private boolean readDish(House told, int d) {
            int kind = place < length ? kindOf(bytes[place]) : 0;
            if (kind == 0) {
                return fails(MISPLACED);
            }
            if (d >= House.MOST) {
                return fails(TOO_MANY);
            }
            place++;
            told.kind[d] = kind;
            if (!readNumber(0, told.floors - 1, ',')) {
                return false;
            }
            told.at[d] = value;
            if (!readNumber(0, told.floors - 1, ',')) {
                return false;
            }
            told.to[d] = value;
            if (!readNumber(1, House.HEAVIEST, ',')) {
                return false;
            }
            told.weight[d] = value;
            if (!readNumber(0, House.HOTTEST, ';')) {
                return false;
            }
            told.heat[d] = value;
            told.dishes = d + 1;
            return true;
        }

        private static int kindOf(int letter) {
            switch (letter) {
                case 'h': return Asks.HOT;
                case 's': return Asks.SOUP;
                case 'r': return Asks.ROAST;
                case 'c': return Asks.COLD;
                case 'i': return Asks.ICE;
                default: return 0;
            }
        }

        private boolean readNumber(int least, int most, int behind) {
            int figures = 0;
            int sum = 0;
            while (place + figures < length && figures <= 2 && isFigure(bytes[place + figures])) {
                sum = 10 * sum + bytes[place + figures] - '0';
                figures++;
            }
            if (figures == 0 || figures > 2) {
                return fails(MISPLACED);
            }
            if (sum < least || sum > most) {
                return fails(WRONG_NUMBER);
            }
            value = sum;
            place += figures;
            return readByte(behind);
        }

        private static boolean isFigure(int letter) {
            return letter >= '0' && letter <= '9';
        }

        private boolean readByte(int letter) {
            if (place >= length || bytes[place] != letter) {
                return fails(MISPLACED);
            }
            place++;
            return true;
        }

        private boolean fails(int number) {
            fault = number;
            return false;
        }
    }

    /** A house as it is in one minute; without dishes it is no house. */
    private static final class House {
        static final int MOST = 6, HIGHEST = 9, WIDEST = 4, STRONGEST = 40, HEAVIEST = 9, HOTTEST = 60;
        static final int IN_CAR = 10, SERVED = 11, DOWN = 0, UP = 1, HOT_ENOUGH = 20, COLD_ENOUGH = 10, MELTING = 10;
        static final int[] BY_NUMBER = {0, 1, 2, 3, 4, 5};

        int floors;
        int room;
        int rope;
        int minute;
        int floor;
        int way;
        int dishes;
        final int[] kind = new int[MOST];
        final int[] at = new int[MOST];
        final int[] to = new int[MOST];
        final int[] weight = new int[MOST];
        final int[] heat = new int[MOST];

        void build(int newFloors, int newRoom, int newRope) {
            floors = newFloors;
            room = newRoom;
            rope = newRope;
            minute = 0;
            floor = 0;
            way = UP;
            dishes = 0;
        }

        void become(House other) {
            floors = other.floors;
            room = other.room;
            rope = other.rope;
            minute = other.minute;
            floor = other.floor;
            way = other.way;
            dishes = other.dishes;
            for (int d = 0; d < dishes; d++) {
                kind[d] = other.kind[d];
                at[d] = other.at[d];
                to[d] = other.to[d];
                weight[d] = other.weight[d];
                heat[d] = other.heat[d];
            }
        }

        boolean isAs(House other) {
            if (floors != other.floors || room != other.room || rope != other.rope || minute != other.minute
                    || floor != other.floor || way != other.way || dishes != other.dishes) {
                return false;
            }
            for (int d = 0; d < dishes; d++) {
                if (kind[d] != other.kind[d] || at[d] != other.at[d] || to[d] != other.to[d]
                        || weight[d] != other.weight[d] || heat[d] != other.heat[d]) {
                    return false;
                }
            }
            return true;
        }

        boolean stands() {
            return dishes > 0;
        }

        boolean isDish(int d) {
            return d >= 0 && d < dishes;
        }

        boolean isFloor(int f) {
            return f >= 0 && f < floors;
        }

        int all() {
            return (1 << dishes) - 1;
        }

        int those(int place) {
            int bits = 0;
            for (int d = 0; d < dishes; d++) {
                if (at[d] == place) {
                    bits |= 1 << d;
                }
            }
            return bits;
        }

        int served() {
            return those(SERVED);
        }

        int servedGood() {
            int bits = 0;
            for (int d = 0; d < dishes; d++) {
                if (at[d] == SERVED && isGood(d)) {
                    bits |= 1 << d;
                }
            }
            return bits;
        }

        boolean isGood(int d) {
            return Asks.isOne(kind[d], Asks.HOT) ? heat[d] >= HOT_ENOUGH : heat[d] <= COLD_ENOUGH;
        }

        int weightOf(int bits) {
            int sum = 0;
            for (int d = 0; d < dishes; d++) {
                sum += (bits >> d & 1) * weight[d];
            }
            return sum;
        }

        int heatOf(int bits) {
            int sum = 0;
            for (int d = 0; d < dishes; d++) {
                sum += (bits >> d & 1) * heat[d];
            }
            return sum;
        }

        void sendBack(int d, int newTo, int newHeat) {
            at[d] = to[d];
            to[d] = newTo;
            heat[d] = newHeat;
        }

        /** A minute; while the rope sticks the dishes cool all the same. */
        void pass(int[] order, boolean sticks) {
            boolean went = false;
            if (!sticks) {
                letOut();
                takeIn(order);
                went = goOn();
            }
            for (int d = 0; d < dishes; d++) {
                if (at[d] != SERVED) {
                    age(d, went && at[d] == IN_CAR);
                }
            }
            minute++;
        }

        private void letOut() {
            for (int d = 0; d < dishes; d++) {
                if (to[d] == floor && (at[d] == IN_CAR || at[d] == floor)) {
                    at[d] = SERVED;
                }
            }
        }

        private void takeIn(int[] order) {
            int inside = those(IN_CAR);
            int load = weightOf(inside);
            int free = room - Integer.bitCount(inside);
            for (int k = 0; k < dishes && k < order.length && free > 0; k++) {
                int d = order[k];
                if (isDish(d) && at[d] == floor && load + weight[d] <= rope) {
                    at[d] = IN_CAR;
                    load += weight[d];
                    free--;
                }
            }
        }

        int called() {
            int bits = 0;
            for (int d = 0; d < dishes; d++) {
                if (at[d] == IN_CAR) {
                    bits |= 1 << to[d];
                } else if (at[d] != SERVED && weight[d] <= rope) {
                    bits |= 1 << at[d];
                }
            }
            return bits & ~(1 << floor);
        }

        private boolean goOn() {
            int calls = called();
            if (calls == 0) {
                return false;
            }
            int above = calls >> floor;
            int below = calls & (1 << floor) - 1;
            if ((way == UP ? above : below) == 0) {
                way = way == UP ? DOWN : UP;
            }
            floor += way == UP ? 1 : -1;
            return true;
        }

        private void age(int d, boolean shaken) {
            switch (kind[d]) {
                case Asks.ROAST:
                    if (minute % 2 != 0) {
                        cool(d);
                    }
                    break;
                case Asks.SOUP:
                    cool(d);
                    if (shaken) {
                        lose(d);
                    }
                    break;
                case Asks.COLD:
                    warm(d);
                    break;
                case Asks.ICE:
                    warm(d);
                    if (heat[d] >= MELTING) {
                        lose(d);
                    }
                    break;
                default:
                    cool(d);
                    break;
            }
        }

        private void cool(int d) {
            if (heat[d] > 0) {
                heat[d]--;
            }
        }

        private void warm(int d) {
            if (heat[d] < HOTTEST) {
                heat[d]++;
            }
        }

        private void lose(int d) {
            if (weight[d] > 1) {
                weight[d]--;
            }
        }
    }

    /** The acts that can be undone, as the houses ahead of them, in a ring. */
    private static final class Acts {
        static final int MOST = 24;

        private final House[] before = new House[MOST];
        private int next;
        int kept;

        boolean isEmpty() {
            return kept == 0;
        }

        void forget() {
            kept = 0;
        }

        void keep(House now) {
            if (before[next] == null) {
                before[next] = new House();
            }
            before[next].become(now);
            next = (next + 1) % MOST;
            kept = Math.min(MOST, kept + 1);
        }

        int takeBack(House now) {
            int latest = (next + MOST - 1) % MOST;
            if (kept > 0 && before[latest] != null) {
                now.become(before[latest]);
                next = latest;
                kept--;
            }
            return kept;
        }
    }

    /** What would come of the house now, tried on houses beside it. */
    private static final class Foretold {
        static final int MOST_TURNS = 4, MOST_STUCK = 8;
        private static final int KINDS = 0, FLOORS = 1, HEATS = 2, ROPES = 3;

        final House trial = new House();
        private final House[] line = new House[MOST_STUCK + 1];

        House behind(House now, int n) {
            trial.become(now);
            passTrial(n);
            return trial;
        }

        private void passTrial(int n) {
            for (int k = 0; k < n; k++) {
                trial.pass(House.BY_NUMBER, false);
            }
        }

        int firstServed(House now, int wanted, int most) {
            trial.become(now);
            for (int n = 0; n <= most; n++) {
                if ((trial.served() & wanted) == wanted) {
                    return n;
                }
                trial.pass(House.BY_NUMBER, false);
            }
            return NONE;
        }

        int bestStand(House now, int n) {
            int best = 0;
            int most = -1;
            for (int f = 0; f < now.floors; f++) {
                int good = goodFrom(now, f, n);
                if (good > most) {
                    most = good;
                    best = f;
                }
            }
            return best;
        }

        int goodFrom(House now, int floor, int n) {
            trial.become(now);
            trial.floor = floor;
            passTrial(n);
            return Integer.bitCount(trial.servedGood());
        }

        int leastRoom(House now, int n) {
            for (int room = 1; room <= House.WIDEST; room++) {
                if (servesAll(now, room, now.rope, n)) {
                    return room;
                }
            }
            return NONE;
        }

        int leastRope(House now, int n) {
            for (int rope = 1; rope <= House.STRONGEST; rope++) {
                if (servesAll(now, now.room, rope, n)) {
                    return rope;
                }
            }
            return NONE;
        }

        private boolean servesAll(House now, int room, int rope, int n) {
            trial.become(now);
            trial.room = room;
            trial.rope = rope;
            passTrial(n);
            return trial.served() == trial.all();
        }

        private static boolean isLoad(House now, int bits) {
            return (bits & now.served()) == 0 && Integer.bitCount(bits) <= now.room
                    && now.weightOf(bits) <= now.rope;
        }

        static int loads(House now) {
            int sum = 0;
            for (int bits = 0; bits <= now.all(); bits++) {
                sum += isLoad(now, bits) ? 1 : 0;
            }
            return sum;
        }

        static int fullestLoad(House now) {
            int best = 0;
            for (int bits = 1; bits <= now.all(); bits++) {
                if (isLoad(now, bits) && isFuller(now, bits, best)) {
                    best = bits;
                }
            }
            return best;
        }

        private static boolean isFuller(House now, int bits, int than) {
            int more = now.weightOf(bits) - now.weightOf(than);
            return more > 0 || more == 0 && Integer.bitCount(bits) > Integer.bitCount(than);
        }

        static int shareOf(House now, int dish, int n) {
            int sharing = now.all() & ~now.served();
            int whole = now.heatOf(sharing);
            if (whole == 0 || (sharing >> dish & 1) == 0 || now.heat[dish] == 0) {
                return 0;
            }
            int over = n;
            int earlier = 0;
            for (int d = 0; d < now.dishes; d++) {
                if ((sharing >> d & 1) != 0 && now.heat[d] > 0) {
                    over -= n * now.heat[d] / whole;
                    earlier += d < dish ? 1 : 0;
                }
            }
            return n * now.heat[dish] / whole + (earlier < over ? 1 : 0);
        }

        int played(House now, int turns, int minutes) {
            return playedFrom(now, now.floor, 0, turns, minutes);
        }

        /** The cook has the even turns, the butler the odd ones. */
        private int playedFrom(House now, int floor, int turn, int turns, int minutes) {
            if (turn >= turns || turn >= MOST_TURNS) {
                return heatServedFrom(now, floor, minutes);
            }
            boolean cook = turn % 2 == 0;
            int left = playedFrom(now, floor, turn + 1, turns, minutes);
            int next = cook ? floor - 1 : floor + 1;
            if (!now.isFloor(next)) {
                return left;
            }
            int pulled = playedFrom(now, next, turn + 1, turns, minutes);
            return cook ? Math.max(left, pulled) : Math.min(left, pulled);
        }

        private int heatServedFrom(House now, int floor, int minutes) {
            trial.become(now);
            trial.floor = floor;
            passTrial(minutes);
            return trial.heatOf(trial.served());
        }

        /** Which 0 and 1 ask for bits, above these an even one for how many, an odd one for the least. */
        int allThatFits(House now, int dish, int which, int[] row, int from, int n) {
            int about = which < HEATS ? which : which / 2 + 1;
            int bits = 0;
            int sum = 0;
            int least = NONE;
            int last = lastOf(now, about);
            for (int v = about == KINDS || about == ROPES ? 1 : 0; v <= last; v++) {
                suppose(now, about, dish, v);
                if (isTold(dish, row, from, n)) {
                    bits |= about == KINDS || about == FLOORS ? 1 << v : 0;
                    least = sum == 0 ? v : least;
                    sum++;
                }
            }
            if (which < HEATS) {
                return bits;
            }
            return which % 2 == 0 ? sum : least;
        }

        private static int lastOf(House now, int about) {
            switch (about) {
                case KINDS: return Asks.ICE;
                case FLOORS: return now.floors - 1;
                case HEATS: return House.HOTTEST;
                default: return House.STRONGEST;
            }
        }

        private void suppose(House now, int about, int dish, int v) {
            trial.become(now);
            switch (about) {
                case KINDS:
                    trial.kind[dish] = v;
                    break;
                case FLOORS:
                    trial.floor = v;
                    break;
                case HEATS:
                    trial.heat[dish] = v;
                    break;
                default:
                    trial.rope = v;
                    break;
            }
        }

        private boolean isTold(int dish, int[] row, int from, int n) {
            for (int k = 0; k < n && from + k < row.length; k++) {
                trial.pass(House.BY_NUMBER, false);
                if (trial.heat[dish] != row[from + k]) {
                    return false;
                }
            }
            return true;
        }

        static long casesInAll(int n) {
            long cases = 1;
            for (int k = 0; k < n; k++) {
                cases *= 10;
            }
            return cases;
        }

        /** At least 1, so that it divides whatever is given. */
        static long commonDivisor(long a, long b) {
            long x = a;
            long y = b;
            for (int k = 0; k < 100 && x != 0; k++) {
                long rest = y % x;
                y = x;
                x = rest;
            }
            return Math.max(1, y);
        }

        long casesServed(House now, int dish, int n, int p) {
            lineAt(0).become(now);
            return casesFrom(0, dish, n, p);
        }

        private long casesFrom(int depth, int dish, int n, int p) {
            House here = lineAt(depth);
            if (here.at[dish] == House.SERVED) {
                return casesInAll(n - depth);
            }
            if (depth >= n || depth >= MOST_STUCK) {
                return 0;
            }
            return branch(depth, dish, n, p, true) + branch(depth, dish, n, p, false);
        }

        private long branch(int depth, int dish, int n, int p, boolean sticks) {
            int cases = sticks ? p : 10 - p;
            if (cases == 0) {
                return 0;
            }
            House there = lineAt(depth + 1);
            there.become(lineAt(depth));
            there.pass(House.BY_NUMBER, sticks);
            return cases * casesFrom(depth + 1, dish, n, p);
        }

        private House lineAt(int depth) {
            if (line[depth] == null) {
                line[depth] = new House();
            }
            return line[depth];
        }

        /** Answers how many were served anew; the trial is then as the days have left the house. */
        int draw(House now, int n, int seed) {
            trial.become(now);
            if (!trial.stands() || trial.floors < 1) {
                return 0;
            }
            long x = seed;
            int servedAnew = 0;
            for (int k = 0; k < n; k++) {
                x = x * 16807 % 2147483647;
                int d = (int) (x % trial.dishes);
                int f = (int) (x % trial.floors);
                if (trial.at[d] == House.SERVED) {
                    trial.sendBack(d, f, (int) (x % 61));
                } else if (x % 4 == 0) {
                    trial.floor = f;
                }
                int before = trial.served();
                trial.pass(House.BY_NUMBER, false);
                servedAnew += Integer.bitCount(trial.served() & ~before);
            }
            return servedAnew;
        }
    }

    /** The order for rank by which all are served soonest; kept, as it is asked for one dish at a time. */
    private static final class Orders {
        private static final int ABOVE_ALL = 1000;

        private final House trial = new House();
        private final House searched = new House();
        private final int[] order = new int[House.MOST];
        final int[] best = new int[House.MOST];
        private int minutes;
        int least;

        void search(House now, int n) {
            if (n == minutes && now.isAs(searched)) {
                return;
            }
            searched.become(now);
            minutes = n;
            least = ABOVE_ALL;
            fill(0, 0);
        }

        private void fill(int depth, int used) {
            if (depth >= searched.dishes || depth >= House.MOST) {
                weigh();
                return;
            }
            for (int d = 0; d < searched.dishes; d++) {
                if ((used >> d & 1) == 0 && !isNeedless(depth, d)) {
                    order[depth] = d;
                    fill(depth + 1, used | 1 << d);
                }
            }
        }

        /** Two that do not wait together never vie: the lower one first does the same, and is tried before. */
        private boolean isNeedless(int depth, int d) {
            if (depth == 0) {
                return false;
            }
            int before = order[depth - 1];
            return before > d && (searched.at[before] != searched.at[d] || searched.at[d] >= House.IN_CAR);
        }

        /** Each minute costs 1 for each dish that is not served ahead of it, the end 1 for each that is not. */
        private void weigh() {
            trial.become(searched);
            int cost = 0;
            for (int k = 0; k <= minutes; k++) {
                int open = trial.dishes - Integer.bitCount(trial.served());
                cost += open;
                if (cost >= least) {
                    return;
                }
                if (open == 0) {
                    break;
                }
                trial.pass(order, false);
            }
            least = cost;
            System.arraycopy(order, 0, best, 0, House.MOST);
        }
    }

    /** The kinds, and what is asked of a dish by them. */
    private static final class Asks {
        static final int HOT = 1, SOUP = 2, ROAST = 3, COLD = 4, ICE = 5, SIZES = 0, MARKS = 1;
        private static final int TRACED = 16, DEEPEST = 16;
        private static final int[] NEXT_KIND = {0, 0, HOT, HOT, 0, COLD};
        private static final int[] SIZE_BODIES = {10, 11, 12, 11, 13, 14};
        private static final int[] MARK_BODIES = {20, 21, 24, 22, 23, 23};

        final int[] numbers = new int[TRACED];
        int left;

        static boolean isKind(int kind) {
            return kind >= 0 && kind < NEXT_KIND.length;
        }

        static boolean isOne(int kind, int of) {
            return of == 0 || kind == of || isKind(kind) && NEXT_KIND[kind] == of;
        }

        int answer(House now, int one, int what) {
            left = 0;
            return begin(now, bodyFor(now, one, what), one, 0);
        }

        private static int bodyFor(House now, int one, int what) {
            int kind = now.kind[one];
            if (!isKind(kind)) {
                return 0;
            }
            return what == SIZES ? SIZE_BODIES[kind] : MARK_BODIES[kind];
        }

        private int begin(House now, int body, int one, int depth) {
            if (depth > DEEPEST) {
                return 0;
            }
            leave(body);
            int next = depth + 1;
            switch (body) {
                case 10: return now.weight[one];
                case 11: return begin(now, 10, one, next) + begin(now, bodyFor(now, one, MARKS), one, next);
                case 12: return -begin(now, 11, one, next);
                case 13: return begin(now, 10, one, next) - 100;
                case 14: return 2 * begin(now, 13, one, next);
                case 20: return one;
                case 21: return begin(now, 20, one, next) + now.heat[one];
                case 22: return begin(now, 21, one, next) - 1000;
                case 23: return begin(now, 20, one, next) - begin(now, bodyFor(now, one, SIZES), one, next);
                case 24: return 2 * begin(now, 21, one, next);
                default: return 0;
            }
        }

        private void leave(int body) {
            if (left < TRACED) {
                numbers[left] = body;
                left++;
            }
        }
    }
}
