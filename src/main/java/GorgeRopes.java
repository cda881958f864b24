/**
 * A ferry of ropes over a gorge: who crosses whom in the air, which trips clash and when they
 * go without a clash, what they cost and fray, how a mill is sent over in parts, and what the
 * owners owe one another.
 *
 * <p>This class looks at what it is asked and refuses what may not be; the classes inside it
 * hold the things and reckon. All rows are made once, with the object, and used again by each
 * call, so that no call makes anything new.
 */
public final class GorgeRopes {
    public static final int NONE = -1, BAD = -2, NOT = -3, FULL = -4;

    private static final int NULL = 1, INDEX = 2, CAST = 3, STORE = 4, SIZE = 5;

    private static final int TEXTS = 2, MOST_ROPE_BYTES = 60, MOST_RIGHT_BYTES = 10, BYTES = 256;
    private static final int MOST_ROPES = 8, FIGURES = 10, KINDS = 3, OWNERS = 5, SIDES = 2;
    private static final int MOST_TRIPS = 20, MINUTES = 200, TRIP_ITEMS = 4;
    private static final int MOST_PARTS = 5, PART_SETS = 32, OWNER_SETS = 32;
    private static final int SHEETS = 4, FORMS = 3, MOST_ITEMS = 60;
    private static final int MOST_KNOTS = 9, FRAYS = 100;
    private static final int LOST = -1, BYTE_FORM = 0, SHORT_FORM = 1;
    private static final int TIME = -2;

    private static final int GAP = 0, LIFE = 1, LIMIT = 2, SETTINGS = 3;
    private static final int[] LEAST_SETTING = {1, 1, 0};
    private static final int[] MOST_SETTING = {9, 99, 999};

    private final Text ropeText;
    private final Text rightText;
    private final Ropes ropes;
    private final int[] setting;
    private final Trips trips;
    private final Timetable table;
    private final Mill mill;
    private final Fees fees;
    private final Sheets sheets;

    public GorgeRopes() {
        ropeText = new Text(MOST_ROPE_BYTES);
        rightText = new Text(MOST_RIGHT_BYTES);
        ropes = new Ropes();
        setting = new int[] {3, 40, 100};
        trips = new Trips();
        table = new Timetable();
        mill = new Mill();
        fees = new Fees();
        sheets = new Sheets();
    }

    // ---- ropes

    public int type(int text, int b) {
        if (!isBelow(text, TEXTS) || !isBelow(b, BYTES)) {
            return BAD;
        }
        Text chosen = textOf(text);
        if (chosen.isFull()) {
            return FULL;
        }
        chosen.append(b);
        ropes.learn(ropeText, rightText);
        return chosen.length;
    }

    public int wipe(int text) {
        if (!isBelow(text, TEXTS)) {
            return BAD;
        }
        Text chosen = textOf(text);
        int had = chosen.drop();
        ropes.learn(ropeText, rightText);
        return had;
    }

    public int fault(int text) {
        if (!isBelow(text, TEXTS)) {
            return BAD;
        }
        return text == 0 ? ropes.ropesFault : ropes.rightFault;
    }

    public int rope(int rope, int what) {
        if (!ropes.has(rope) || !isBelow(what, 7)) {
            return BAD;
        }
        return ropes.at(rope).tell(what);
    }

    public int crosses(int a, int b, int what) {
        if (!ropes.hasTwo(a, b) || !isBelow(what, 2)) {
            return BAD;
        }
        Rope first = ropes.at(a);
        if (what == 1) {
            return ropes.metBy(first);
        }
        return first.meets(ropes.at(b)) ? 1 : 0;
    }

    public long crossing(int a, int b, int which, int what) {
        if (!ropes.hasTwo(a, b) || !isBelow(which, 2) || !isBelow(what, 2)) {
            return longRefusal(BAD);
        }
        return crossingAsTold(a, b, which, what);
    }

    public int takes(int rope, int side, int load, int what) {
        if (!ropes.has(rope) || !isBelow(side, SIDES) || !isBelow(load, FIGURES)
                || !isBelow(what, 2)) {
            return BAD;
        }
        Rope over = ropes.at(rope);
        return what == 0 ? over.minutes(side) : over.fare(side, load);
    }

    public int set(int what, int v) {
        if (!isBelow(what, SETTINGS) || v < LEAST_SETTING[what] || v > MOST_SETTING[what]) {
            return BAD;
        }
        int was = setting[what];
        setting[what] = v;
        return was;
    }

    // ---- trips

    public int trip(int rope, int side, int begin, int load, int owner) {
        if (!mayGo(rope, side, begin, load) || !isBelow(owner, OWNERS)) {
            return BAD;
        }
        if (trips.isFull()) {
            return FULL;
        }
        trips.append(rope, side, begin, load, owner);
        return trips.size - 1;
    }

    public int read(int s, int owner) {
        if (!isBelow(s, SHEETS) || !isBelow(owner, OWNERS)) {
            return BAD;
        }
        Sheet from = sheets.at(s);
        if (from.isLost()) {
            return sheets.find(NULL);
        }
        int came = 0;
        for (int i = 0; i + TRIP_ITEMS <= from.size; i += TRIP_ITEMS) {
            if (trips.isFull() || !mayGo(from.item(i), from.item(i + 1), from.item(i + 2),
                    from.item(i + 3))) {
                break;
            }
            trips.append(from.item(i), from.item(i + 1), from.item(i + 2), from.item(i + 3), owner);
            came++;
        }
        return came;
    }

    public int undo() {
        if (trips.size < 1) {
            return NOT;
        }
        trips.dropLast();
        return trips.size;
    }

    public int clash(int a, int b, int what) {
        if (!trips.has(a) || !trips.has(b) || a == b || !isBelow(what, 2)) {
            return BAD;
        }
        table.beginAsTold(ropes, trips);
        boolean clash = table.collide(ropes, trips, a, b, setting[GAP]);
        if (what == 0) {
            return clash ? 1 : 0;
        }
        return clash ? guilty(a, b) : NONE;
    }

    public int clashes() {
        table.beginAsTold(ropes, trips);
        return table.pairs(ropes, trips, setting[GAP]);
    }

    public int putOff(int trip) {
        if (!trips.has(trip)) {
            return BAD;
        }
        table.beginWithoutClash(ropes, trips, setting[GAP]);
        return table.startOf(trip);
    }

    public int frayed(int rope, int what) {
        if (!ropes.has(rope) || !isBelow(what, 2)) {
            return BAD;
        }
        return what == 0 ? trips.frayOf(rope) : trips.breakerOf(rope, setting[LIFE]);
    }

    public int yet(int rope, int load) {
        if (!ropes.has(rope) || !isBelow(load, FIGURES)) {
            return BAD;
        }
        int left = Math.max(0, setting[LIFE] - trips.frayOf(rope));
        return left / (load + 1);
    }

    public int heavy() {
        int bits = 0;
        for (int i = 0; i < trips.size; i++) {
            Trip trip = trips.at(i);
            if (ropes.has(trip.rope) && trip.load > ropes.at(trip.rope).bears) {
                bits |= 1 << i;
            }
        }
        return bits;
    }

    public int wind(int seed) {
        table.beginBlown(ropes, trips, seed);
        return table.pairs(ropes, trips, setting[GAP]);
    }

    // ---- the mill

    public int part(int weight, int kind) {
        if (!isBelow(weight, FIGURES) || !isBelow(kind, KINDS)) {
            return BAD;
        }
        if (mill.isFull()) {
            return FULL;
        }
        mill.append(weight, kind);
        return mill.size - 1;
    }

    public int gone() {
        return mill.drop();
    }

    public int sent(int part) {
        if (part != NONE && part != TIME && !isBelow(part, mill.size)) {
            return BAD;
        }
        mill.reckon(ropes, NONE, setting[LIMIT]);
        return sentAsReckoned(part);
    }

    public int cut(int rope) {
        if (!ropes.has(rope)) {
            return BAD;
        }
        return cutAsTold(rope);
    }

    public int needed() {
        int limit = setting[LIMIT];
        mill.reckon(ropes, NONE, limit);
        if (mill.leastCost() == NONE) {
            return 0;
        }
        int bits = 0;
        for (int rope = 0; rope < ropes.size; rope++) {
            mill.reckon(ropes, rope, limit);
            if (mill.leastCost() == NONE) {
                bits |= 1 << rope;
            }
        }
        return bits;
    }

    public int pegs(int kind, int bears, int price, int what) {
        if (!isBelow(kind, KINDS) || !isBelow(bears, FIGURES) || !isBelow(price, FIGURES)
                || !isBelow(what, 3)) {
            return BAD;
        }
        mill.seekPegs(ropes, kind, bears, price, setting[LIMIT]);
        return mill.foundPegs(what);
    }

    // ---- fees, knots

    public int balance(int owner) {
        if (!isBelow(owner, OWNERS)) {
            return -10000 + BAD;
        }
        return fees.balanceOf(ropes, trips, owner);
    }

    public int settled() {
        return fees.payments(ropes, trips);
    }

    public long knots(int rope, int n, int fray) {
        if (!ropes.has(rope) || n < 0 || n > MOST_KNOTS || !isBelow(fray, FRAYS)) {
            return longRefusal(BAD);
        }
        return fees.ways(ropes.at(rope).bears, n, fray);
    }

    // ---- sheets

    public int sheet(int s, int form, int n) {
        if (!isBelow(s, SHEETS) || !isBelow(form, FORMS) || n > MOST_ITEMS) {
            return BAD;
        }
        if (n < 0) {
            return sheets.find(SIZE);
        }
        sheets.at(s).renew(form, n);
        return n;
    }

    public int lose(int s) {
        if (!isBelow(s, SHEETS)) {
            return BAD;
        }
        Sheet lost = sheets.at(s);
        if (lost.isLost()) {
            return sheets.find(NULL);
        }
        int had = lost.size;
        lost.renew(LOST, 0);
        return had;
    }

    public int lay(int s, int form, int i, int v) {
        if (!isBelow(s, SHEETS) || !isBelow(form, FORMS)) {
            return BAD;
        }
        int finding = sheets.findingAt(s, form, i);
        if (finding != 0) {
            return sheets.find(finding);
        }
        sheets.at(s).put(i, v);
        return 1;
    }

    public int get(int s, int form, int i) {
        if (!isBelow(s, SHEETS) || !isBelow(form, FORMS)) {
            return Integer.MIN_VALUE;
        }
        int finding = sheets.findingAt(s, form, i);
        if (finding != 0) {
            sheets.find(finding);
            return Integer.MIN_VALUE;
        }
        return sheets.at(s).item(i);
    }

    public int copy(int s, int i, int t, int j, int n) {
        if (!isBelow(s, SHEETS) || !isBelow(t, SHEETS)) {
            return BAD;
        }
        Sheet from = sheets.at(s);
        Sheet to = sheets.at(t);
        if (from.isLost() || to.isLost()) {
            return sheets.find(NULL);
        }
        if (from.form != to.form) {
            return sheets.find(STORE);
        }
        if (!from.hasRun(i, n) || !to.hasRun(j, n)) {
            return sheets.find(INDEX);
        }
        System.arraycopy(from.items, i, to.items, j, n);
        return 1;
    }

    public int write(int s) {
        if (!isBelow(s, SHEETS)) {
            return BAD;
        }
        Sheet to = sheets.at(s);
        if (to.isLost()) {
            return sheets.find(NULL);
        }
        table.beginWithoutClash(ropes, trips, setting[GAP]);
        int n = Math.min(to.size, trips.size);
        for (int i = 0; i < n; i++) {
            to.put(i, table.startOf(i));
        }
        return n;
    }

    public int count(int what) {
        switch (what) {
            case 0:
                return ropes.size;
            case 1:
                return ropeText.length;
            case 2:
                return rightText.length;
            case 3:
                return trips.size;
            case 4:
                return tripsThatCount();
            case 5:
                return mill.size;
            case 6:
                return ropes.pairsThatMeet();
            case 7:
                return fees.allFares(ropes, trips);
            case 8:
                return sheets.latest;
            default:
                return BAD;
        }
    }

    public long digest() {
        long h = 17;
        for (int what = 0; what < 8; what++) {
            h = mixed(h, count(what));
        }
        h = mixed(h, ropes.ropesFault);
        h = mixed(h, ropes.rightFault);
        for (int rope = 0; rope < ropes.size; rope++) {
            h = mixedRope(h, rope);
        }
        table.beginWithoutClash(ropes, trips, setting[GAP]);
        for (int trip = 0; trip < trips.size; trip++) {
            h = mixed(h, table.startOf(trip));
        }
        h = mixed(h, clashes());
        h = mixed(h, heavy());
        h = mixed(h, wind(7));
        h = mixedMill(h);
        for (int owner = 0; owner < OWNERS; owner++) {
            h = mixed(h, fees.balanceOf(ropes, trips, owner));
        }
        return mixed(h, settled());
    }

    // ---- what several calls have in common

    private static boolean isBelow(int v, int bound) {
        return v >= 0 && v < bound;
    }

    private static long longRefusal(int refusal) {
        return Long.MIN_VALUE - refusal;
    }

    private static long mixed(long h, long v) {
        return 31 * h + v;
    }

    /** One term of a fraction in lowest terms: above (what = 0) or below (1). */
    private static int lowestTerm(int above, int below, int what) {
        for (int d = below; d >= 1; d--) {
            if (above % d == 0 && below % d == 0) {
                return (what == 0 ? above : below) / d;
            }
        }
        return 0;
    }

    private Text textOf(int text) {
        return text == 0 ? ropeText : rightText;
    }

    private static boolean mayGo(int rope, int side, int begin, int load) {
        return isBelow(rope, MOST_ROPES) && isBelow(side, SIDES) && isBelow(begin, MINUTES)
                && isBelow(load, FIGURES);
    }

    private long crossingAsTold(int a, int b, int which, int what) {
        Rope first = ropes.at(a);
        Rope second = ropes.at(b);
        if (!first.meets(second)) {
            return longRefusal(NOT);
        }
        int below = first.span(second);
        int above = first.apart(second, 0);
        if (which == 1) {
            above = first.left * below + (first.right - first.left) * above;
        }
        return lowestTerm(above, below, what);
    }

    private int guilty(int a, int b) {
        int ropeA = trips.at(a).rope;
        int ropeB = trips.at(b).rope;
        if (ropeA == ropeB) {
            return Math.max(a, b);
        }
        return ropes.at(ropeA).rank > ropes.at(ropeB).rank ? a : b;
    }

    private int tripsThatCount() {
        int n = 0;
        for (int i = 0; i < trips.size; i++) {
            if (ropes.has(trips.at(i).rope)) {
                n++;
            }
        }
        return n;
    }

    /** What sent() answers of the way that the mill has reckoned. */
    private int sentAsReckoned(int part) {
        if (part == NONE) {
            return mill.leastCost();
        }
        return part == TIME ? mill.timeThen(ropes) : mill.ropeThen(part);
    }

    private int cutAsTold(int rope) {
        mill.reckon(ropes, NONE, setting[LIMIT]);
        int costWith = mill.leastCost();
        mill.reckon(ropes, rope, setting[LIMIT]);
        int costWithout = mill.leastCost();
        return costWith == NONE || costWithout == NONE ? NOT : costWithout - costWith;
    }

    private long mixedRope(long before, int rope) {
        long h = before;
        Rope told = ropes.at(rope);
        for (int what = 0; what < 7; what++) {
            h = mixed(h, told.tell(what));
        }
        h = mixed(h, trips.frayOf(rope));
        h = mixed(h, trips.breakerOf(rope, setting[LIFE]));
        h = mixed(h, cutAsTold(rope));
        if (ropes.size < 2) {
            return h;
        }
        int next = rope + 1 < ropes.size ? rope + 1 : 0;
        for (int which = 0; which < 2; which++) {
            h = mixed(h, crossingAsTold(rope, next, which, 0));
            h = mixed(h, crossingAsTold(rope, next, which, 1));
        }
        return h;
    }

    private long mixedMill(long before) {
        long h = before;
        mill.reckon(ropes, NONE, setting[LIMIT]);
        h = mixed(h, sentAsReckoned(NONE));
        h = mixed(h, sentAsReckoned(TIME));
        for (int part = 0; part < mill.size; part++) {
            h = mixed(h, sentAsReckoned(part));
        }
        h = mixed(h, needed());
        mill.seekPegs(ropes, 0, 9, 1, setting[LIMIT]);
        for (int what = 0; what < 3; what++) {
            h = mixed(h, mill.foundPegs(what));
        }
        return h;
    }

    /** Bytes that were typed. */
    private static final class Text {
        private final int[] bytes = new int[MOST_ROPE_BYTES];
        private final int room;
        private int length;

        Text(int most) {
            room = Math.min(most, MOST_ROPE_BYTES);
        }

        boolean isFull() {
            return length >= room;
        }

        void append(int b) {
            if (isBelow(length, room)) {
                bytes[length] = b;
                length++;
            }
        }

        /** All bytes go: how many there were. */
        int drop() {
            int had = length;
            length = 0;
            return had;
        }

        int at(int place) {
            return isBelow(place, length) ? bytes[place] : NONE;
        }

        int figureAt(int place) {
            int figure = at(place) - '0';
            return isBelow(figure, FIGURES) ? figure : NONE;
        }
    }

    /** One rope, as its part of the text tells it, and its place by right. */
    private static final class Rope {
        private int left;
        private int right;
        private int kind;
        private int bears;
        private int price;
        private int owner;
        private int rank;
        /** How much higher a trip ends than it began, from the left and from the right. */
        private int climbRight;
        private int climbLeft;

        int tell(int what) {
            switch (what) {
                case 0:
                    return left;
                case 1:
                    return right;
                case 2:
                    return kind;
                case 3:
                    return bears;
                case 4:
                    return price;
                case 5:
                    return owner;
                default:
                    return rank;
            }
        }

        void learn(int what, int v) {
            switch (what) {
                case 0:
                    hang(v, right);
                    break;
                case 1:
                    hang(left, v);
                    break;
                case 2:
                    kind = v;
                    break;
                case 3:
                    bears = v;
                    break;
                case 4:
                    price = v;
                    break;
                case 5:
                    owner = v;
                    break;
                default:
                    break;
            }
        }

        void hang(int newLeft, int newRight) {
            left = newLeft;
            right = newRight;
            climbRight = Math.max(0, right - left);
            climbLeft = Math.max(0, left - right);
        }

        boolean meets(Rope other) {
            return (left - other.left) * (right - other.right) < 0;
        }

        /** By how much the pegs of two ropes are apart on a side. */
        int apart(Rope other, int side) {
            return side == 0 ? Math.abs(left - other.left) : Math.abs(right - other.right);
        }

        /** Of two that meet: into how many like pieces the way is parted, apart() of them ahead. */
        int span(Rope other) {
            return apart(other, 0) + apart(other, 1);
        }

        int minutes(int side) {
            return 12 + 2 * (side == 0 ? climbRight : climbLeft);
        }

        int fare(int side, int load) {
            return price * (load + 1) + (side == 0 ? climbRight : climbLeft);
        }
    }

    /** What the two texts tell. */
    private static final class Ropes {
        /** A part of the text has six bytes, and a ; behind it. */
        private static final int STEP = 7, KIND_BYTE = 2, OWNER_BYTE = 5, END_BYTE = 6;

        private final Rope[] rows = new Rope[MOST_ROPES];
        private final Rope bare = new Rope();
        private final int[] byRight = new int[MOST_ROPES];
        private int size;
        private int ropesFault = NONE;
        private int rightFault = NONE;

        Ropes() {
            for (int i = 0; i < MOST_ROPES; i++) {
                rows[i] = new Rope();
            }
        }

        boolean has(int rope) {
            return isBelow(rope, size);
        }

        boolean hasTwo(int a, int b) {
            return has(a) && has(b) && a != b;
        }

        /** A rope by its number; where there is none, a bare one, never null. */
        Rope at(int rope) {
            Rope found = isBelow(rope, MOST_ROPES) ? rows[rope] : null;
            return found == null ? bare : found;
        }

        /** The rope that has a place by right. */
        int ranked(int place) {
            return isBelow(place, MOST_ROPES) ? byRight[place] : NONE;
        }

        int metBy(Rope one) {
            int n = 0;
            for (int rope = 0; rope < size; rope++) {
                if (one.meets(at(rope))) {
                    n++;
                }
            }
            return n;
        }

        int pairsThatMeet() {
            int n = 0;
            for (int rope = 0; rope < size; rope++) {
                n += metBy(at(rope));
            }
            return n / 2;
        }

        void learn(Text ropes, Text right) {
            ropesFault = learnRopes(ropes);
            size = ropesFault == NONE ? (ropes.length + 1) / STEP : 0;
            rightFault = faultOfRight(right);
            rank(right);
        }

        private int learnRopes(Text text) {
            for (int place = 0; place < text.length; place++) {
                int rope = place / STEP;
                int v = valueOf(place % STEP, text.at(place), text.figureAt(place));
                if (rope >= MOST_ROPES || v == NONE) {
                    return place;
                }
                at(rope).learn(place % STEP, v);
            }
            boolean ended = text.length == 0 || text.length % STEP == END_BYTE;
            return ended ? NONE : text.length;
        }

        private static int valueOf(int what, int b, int figure) {
            if (what == KIND_BYTE) {
                return kindOf(b);
            }
            if (what == END_BYTE) {
                return b == ';' ? 0 : NONE;
            }
            if (what == OWNER_BYTE && figure >= OWNERS) {
                return NONE;
            }
            return figure;
        }

        private static int kindOf(int b) {
            switch (b) {
                case 'b':
                    return 0;
                case 'h':
                    return 1;
                case 'c':
                    return 2;
                default:
                    return NONE;
            }
        }

        private int faultOfRight(Text text) {
            int told = 0;
            for (int place = 0; place < text.length; place++) {
                int rope = text.figureAt(place);
                if (!has(rope) || (told & (1 << rope)) != 0) {
                    return place;
                }
                told |= 1 << rope;
            }
            return NONE;
        }

        private void rank(Text text) {
            int told = 0;
            int place = 0;
            if (rightFault == NONE) {
                for (place = 0; place < text.length; place++) {
                    int rope = text.figureAt(place);
                    told |= 1 << rope;
                    give(rope, place);
                }
            }
            for (int rope = 0; rope < size; rope++) {
                if ((told & (1 << rope)) == 0) {
                    give(rope, place);
                    place++;
                }
            }
        }

        private void give(int rope, int place) {
            if (isBelow(place, MOST_ROPES)) {
                byRight[place] = rope;
                at(rope).rank = place;
            }
        }
    }

    /** One trip, as it was told. */
    private static final class Trip {
        private int rope;
        private int side;
        private int begin;
        private int load;
        private int owner;
    }

    /** The trips by their numbers, those that count and those that do not. */
    private static final class Trips {
        private final Trip[] rows = new Trip[MOST_TRIPS];
        private final Trip bare = new Trip();
        private int size;

        Trips() {
            for (int i = 0; i < MOST_TRIPS; i++) {
                rows[i] = new Trip();
            }
        }

        boolean isFull() {
            return size >= MOST_TRIPS;
        }

        boolean has(int trip) {
            return isBelow(trip, size);
        }

        /** A trip by its number; where there is none, a bare one, never null. */
        Trip at(int trip) {
            Trip found = isBelow(trip, MOST_TRIPS) ? rows[trip] : null;
            return found == null ? bare : found;
        }

        void append(int rope, int side, int begin, int load, int owner) {
            if (isFull()) {
                return;
            }
            Trip next = at(size);
            next.rope = rope;
            next.side = side;
            next.begin = begin;
            next.load = load;
            next.owner = owner;
            size++;
        }

        void dropLast() {
            size = Math.max(0, size - 1);
        }

        int frayOf(int rope) {
            int fray = 0;
            for (int i = 0; i < size; i++) {
                Trip trip = at(i);
                if (trip.rope == rope) {
                    fray += trip.load + 1;
                }
            }
            return fray;
        }

        int breakerOf(int rope, int life) {
            int fray = 0;
            for (int i = 0; i < size; i++) {
                Trip trip = at(i);
                if (trip.rope == rope) {
                    fray += trip.load + 1;
                    if (fray > life) {
                        return i;
                    }
                }
            }
            return NONE;
        }
    }

    /** When each trip begins: as told, blown by the wind, or put off; NONE, if it does not count. */
    private static final class Timetable {
        /** Far above the latest minute to which nineteen trips can put off a twentieth. */
        private static final int MOST_TRIES = 100000;
        private static final int WIND_LOTS = 4;

        private final int[] start = new int[MOST_TRIPS];
        private int seed;

        int startOf(int trip) {
            return isBelow(trip, MOST_TRIPS) ? start[trip] : NONE;
        }

        private void begin(int trip, int minute) {
            if (isBelow(trip, MOST_TRIPS)) {
                start[trip] = minute;
            }
        }

        void beginAsTold(Ropes ropes, Trips trips) {
            for (int i = 0; i < trips.size; i++) {
                Trip trip = trips.at(i);
                begin(i, ropes.has(trip.rope) ? trip.begin : NONE);
            }
        }

        void beginBlown(Ropes ropes, Trips trips, int firstSeed) {
            seed = firstSeed;
            for (int i = 0; i < trips.size; i++) {
                Trip trip = trips.at(i);
                begin(i, ropes.has(trip.rope) ? trip.begin + windLot() : NONE);
            }
        }

        private int windLot() {
            seed = 1103515245 * seed + 12345;
            return (seed >>> 16) % WIND_LOTS;
        }

        void beginWithoutClash(Ropes ropes, Trips trips, int gap) {
            for (int i = 0; i < trips.size; i++) {
                begin(i, NONE);
            }
            for (int place = 0; place < ropes.size; place++) {
                int rope = ropes.ranked(place);
                for (int i = 0; i < trips.size; i++) {
                    if (trips.at(i).rope == rope) {
                        delay(ropes, trips, i, gap);
                    }
                }
            }
        }

        /** Begins a trip at the first minute at which none that has begun is in its way. */
        private void delay(Ropes ropes, Trips trips, int trip, int gap) {
            begin(trip, trips.at(trip).begin);
            for (int tries = 0; tries < MOST_TRIES; tries++) {
                int other = firstInWay(ropes, trips, trip, gap);
                if (other == NONE) {
                    return;
                }
                begin(trip, nextMinute(ropes, trips, trip, other));
            }
        }

        private int firstInWay(Ropes ropes, Trips trips, int trip, int gap) {
            for (int other = 0; other < trips.size; other++) {
                if (other != trip && collide(ropes, trips, trip, other, gap)) {
                    return other;
                }
            }
            return NONE;
        }

        /** On one rope no minute ahead of the other's end can do, so that these are left out. */
        private int nextMinute(Ropes ropes, Trips trips, int trip, int other) {
            Trip ahead = trips.at(other);
            if (trips.at(trip).rope == ahead.rope) {
                return startOf(other) + ropes.at(ahead.rope).minutes(ahead.side);
            }
            return startOf(trip) + 1;
        }

        int pairs(Ropes ropes, Trips trips, int gap) {
            int n = 0;
            for (int a = 0; a < trips.size; a++) {
                for (int b = a + 1; b < trips.size; b++) {
                    if (collide(ropes, trips, a, b, gap)) {
                        n++;
                    }
                }
            }
            return n;
        }

        boolean collide(Ropes ropes, Trips trips, int a, int b, int gap) {
            int startA = startOf(a);
            int startB = startOf(b);
            if (startA == NONE || startB == NONE) {
                return false;
            }
            Trip tripA = trips.at(a);
            Trip tripB = trips.at(b);
            Rope ropeA = ropes.at(tripA.rope);
            Rope ropeB = ropes.at(tripB.rope);
            int minutesA = ropeA.minutes(tripA.side);
            int minutesB = ropeB.minutes(tripB.side);
            if (tripA.rope == tripB.rope) {
                return startA < startB + minutesB && startA + minutesA > startB;
            }
            if (!ropeA.meets(ropeB)) {
                return false;
            }
            // All moments times the span, so that they are whole numbers.
            int span = ropeA.span(ropeB);
            int momentA = startA * span + minutesA * ropeA.apart(ropeB, tripA.side);
            int momentB = startB * span + minutesB * ropeB.apart(ropeA, tripB.side);
            return Math.abs(momentA - momentB) < gap * span;
        }
    }

    /**
     * The parts of a mill, and the best way to send them. Each way has a key: its cost, and
     * below that three bits for the rope of each part, the first part uppermost. So the least
     * key is the cheapest way and of like ones the least row, and keys of parts add up.
     */
    private static final class Mill {
        private static final int ROPE_BITS = 3, ROPE_MASK = 7, ROW_BITS = 15;
        /** Above each key; two of it are still an int. */
        private static final int NO_WAY = 1 << 28;

        private final int[] weight = new int[MOST_PARTS];
        private final int[] kind = new int[MOST_PARTS];
        private final int[] least = new int[PART_SETS];
        private final int[] alone = new int[PART_SETS];
        private final Rope extra = new Rope();
        private int size;
        private int pegsLeft;
        private int pegsRight;
        private int pegsCost;
        private int pegsMet;

        boolean isFull() {
            return size >= MOST_PARTS;
        }

        void append(int partWeight, int partKind) {
            if (isBelow(size, MOST_PARTS)) {
                weight[size] = partWeight;
                kind[size] = partKind;
                size++;
            }
        }

        /** All parts go: how many there were. */
        int drop() {
            int had = size;
            size = 0;
            return had;
        }

        /** The set of all parts. */
        private int all() {
            return (1 << Math.min(size, MOST_PARTS)) - 1;
        }

        /** Finds of each set of parts the least key, with all ropes but one (NONE: with all). */
        void reckon(Ropes ropes, int without, int limit) {
            for (int set = 1; set < PART_SETS; set++) {
                least[set] = NO_WAY;
            }
            least[0] = 0;
            for (int rope = 0; rope < ropes.size; rope++) {
                if (rope != without) {
                    reckonAlone(ropes.at(rope), rope, limit);
                    join();
                }
            }
        }

        /** Finds of each set of parts the key, if one rope carries it all. */
        private void reckonAlone(Rope rope, int number, int limit) {
            alone[0] = 0;
            for (int part = 0; part < Math.min(size, MOST_PARTS); part++) {
                int bit = 1 << part;
                int key = keyOf(rope, number, part);
                for (int set = 0; set < bit; set++) {
                    boolean can = timeOf(rope, Integer.bitCount(set) + 1) <= limit;
                    alone[bit + set] = can ? Math.min(NO_WAY, alone[set] + key) : NO_WAY;
                }
            }
        }

        private int keyOf(Rope rope, int number, int part) {
            if (!isBelow(part, MOST_PARTS) || rope.kind != kind[part] || rope.bears < weight[part]) {
                return NO_WAY;
            }
            return (rope.fare(0, weight[part]) << ROW_BITS) + (number << rowShift(part));
        }

        private static int rowShift(int part) {
            return ROPE_BITS * (MOST_PARTS - 1 - part);
        }

        private static int timeOf(Rope rope, int carried) {
            return carried < 1 ? 0 : carried * rope.minutes(0) + (carried - 1) * rope.minutes(1);
        }

        /** Adds the rope that was reckoned alone; greater sets first, as they need the old lesser. */
        private void join() {
            for (int set = all(); set >= 1; set--) {
                least[set] = leastJoined(set);
            }
        }

        /** The least key of a set, some of which, or none, goes by the rope reckoned alone. */
        private int leastJoined(int set) {
            if (!isBelow(set, PART_SETS)) {
                return NO_WAY;
            }
            int best = least[set];
            for (int some = 1; some <= set; some++) {
                if ((some & set) == some) {
                    best = Math.min(best, least[set - some] + alone[some]);
                }
            }
            return best;
        }

        private int leastKey() {
            return least[all()];
        }

        int leastCost() {
            return costOf(leastKey());
        }

        private static int costOf(int key) {
            return key < NO_WAY ? key >> ROW_BITS : NONE;
        }

        int ropeThen(int part) {
            if (leastKey() >= NO_WAY || !isBelow(part, size)) {
                return NONE;
            }
            return leastKey() >> rowShift(part) & ROPE_MASK;
        }

        int timeThen(Ropes ropes) {
            if (leastKey() >= NO_WAY) {
                return NONE;
            }
            int most = 0;
            for (int rope = 0; rope < ropes.size; rope++) {
                int carried = 0;
                for (int part = 0; part < size; part++) {
                    if (ropeThen(part) == rope) {
                        carried++;
                    }
                }
                most = Math.max(most, timeOf(ropes.at(rope), carried));
            }
            return most;
        }

        void seekPegs(Ropes ropes, int ropeKind, int bears, int price, int limit) {
            reckon(ropes, NONE, limit);
            extra.kind = ropeKind;
            extra.bears = bears;
            extra.price = price;
            pegsCost = NONE;
            for (int left = 0; left < FIGURES; left++) {
                for (int right = 0; right < FIGURES; right++) {
                    extra.hang(left, right);
                    tryPegs(ropes, limit);
                }
            }
        }

        private void tryPegs(Ropes ropes, int limit) {
            reckonAlone(extra, 0, limit);
            int cost = costOf(leastJoined(all()));
            int met = ropes.metBy(extra);
            boolean better = pegsCost == NONE || cost < pegsCost
                    || cost == pegsCost && met < pegsMet;
            if (cost != NONE && better) {
                pegsLeft = extra.left;
                pegsRight = extra.right;
                pegsCost = cost;
                pegsMet = met;
            }
        }

        int foundPegs(int what) {
            if (pegsCost == NONE || what == 2) {
                return pegsCost;
            }
            return what == 0 ? pegsLeft : pegsRight;
        }
    }

    /** What trips cost, what owners owe, and in how many ways fray comes about. */
    private static final class Fees {
        private final int[] money = new int[OWNERS];
        private final int[] sums = new int[OWNER_SETS];
        private final int[] groups = new int[OWNER_SETS];
        private final long[] waysTo = new long[FRAYS];

        private static int fareOf(Ropes ropes, Trip trip) {
            return ropes.has(trip.rope) ? ropes.at(trip.rope).fare(trip.side, trip.load) : 0;
        }

        int allFares(Ropes ropes, Trips trips) {
            int sum = 0;
            for (int i = 0; i < trips.size; i++) {
                sum += fareOf(ropes, trips.at(i));
            }
            return sum;
        }

        /** Who pays oneself gets as much as one pays, and so nothing. */
        int balanceOf(Ropes ropes, Trips trips, int owner) {
            int sum = 0;
            for (int i = 0; i < trips.size; i++) {
                Trip trip = trips.at(i);
                int fare = fareOf(ropes, trip);
                if (ropes.at(trip.rope).owner == owner) {
                    sum += fare;
                }
                if (trip.owner == owner) {
                    sum -= fare;
                }
            }
            return sum;
        }

        /** Who has a balance of 0 is a group alone, and so neither adds nor takes a payment. */
        int payments(Ropes ropes, Trips trips) {
            for (int owner = 0; owner < OWNERS; owner++) {
                money[owner] = balanceOf(ropes, trips, owner);
            }
            return OWNERS - mostGroups();
        }

        /**
         * Whoever comes last into a row of people ends a group, if their sum is 0 then: so a set
         * has as many groups as the best set with one less, and one more, if its sum is 0.
         */
        private int mostGroups() {
            for (int set = 1; set < OWNER_SETS; set++) {
                int most = 0;
                for (int owner = 0; owner < OWNERS; owner++) {
                    int rest = set & ~(1 << owner);
                    if (rest != set) {
                        sums[set] = sums[rest] + money[owner];
                        most = Math.max(most, groups[rest]);
                    }
                }
                groups[set] = sums[set] == 0 ? most + 1 : most;
            }
            return groups[OWNER_SETS - 1];
        }

        long ways(int bears, int n, int fray) {
            for (int sum = 0; sum < FRAYS; sum++) {
                waysTo[sum] = 0;
            }
            waysTo[0] = 1;
            for (int trip = 0; trip < n; trip++) {
                addTrip(bears);
            }
            return isBelow(fray, FRAYS) ? waysTo[fray] : 0;
        }

        /** Greater sums first, as they need the old lesser ones. */
        private void addTrip(int bears) {
            for (int sum = FRAYS - 1; sum >= 0; sum--) {
                long ways = 0;
                for (int load = 0; load <= bears && load + 1 <= sum; load++) {
                    ways += waysTo[sum - load - 1];
                }
                waysTo[sum] = ways;
            }
        }
    }

    /** One sheet: lost, or a row of a form, each item held as its form can hold it. */
    private static final class Sheet {
        private final int[] items = new int[MOST_ITEMS];
        private int form = LOST;
        private int size;

        boolean isLost() {
            return form == LOST;
        }

        void renew(int newForm, int n) {
            form = newForm;
            size = Math.max(0, Math.min(n, MOST_ITEMS));
            for (int i = 0; i < MOST_ITEMS; i++) {
                items[i] = 0;
            }
        }

        int item(int i) {
            return isBelow(i, MOST_ITEMS) ? items[i] : 0;
        }

        void put(int i, int v) {
            if (isBelow(i, MOST_ITEMS)) {
                items[i] = fitted(v);
            }
        }

        private int fitted(int v) {
            if (form == BYTE_FORM) {
                return (byte) v;
            }
            return form == SHORT_FORM ? (short) v : v;
        }

        /** Whether there are n items from i on; none are there at the end, too, but not behind. */
        boolean hasRun(int i, int n) {
            return i >= 0 && n >= 0 && n <= size - i;
        }
    }

    /** The sheets, and the latest finding. */
    private static final class Sheets {
        private final Sheet[] rows = new Sheet[SHEETS];
        private final Sheet bare = new Sheet();
        private int latest;

        Sheets() {
            for (int i = 0; i < SHEETS; i++) {
                rows[i] = new Sheet();
            }
        }

        /** A sheet by its number; where there is none, a bare one, never null. */
        Sheet at(int s) {
            Sheet found = isBelow(s, SHEETS) ? rows[s] : null;
            return found == null ? bare : found;
        }

        int find(int finding) {
            latest = finding;
            return -10 - finding;
        }

        /** What is found where item i of a sheet is treated as of a form; 0: nothing. */
        int findingAt(int s, int form, int i) {
            Sheet sheet = at(s);
            if (sheet.isLost()) {
                return NULL;
            }
            if (sheet.form != form) {
                return CAST;
            }
            return isBelow(i, sheet.size) ? 0 : INDEX;
        }
    }
}
