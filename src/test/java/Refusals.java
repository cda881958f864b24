import java.util.Arrays;
import java.util.function.Function;
import java.util.function.Supplier;
import java.util.function.ToLongFunction;

/** Each call that is refused, in each state: what it answers, in which order, and that it changes nothing. */
final class Refusals {
    private static final int BAD = -2, NOT = -3, FULL = -4;
    private static final int NULL = -11, INDEX = -12, CAST = -13, STORE = -14, SIZE = -15;
    private static final int MIN = Integer.MIN_VALUE, MAX = Integer.MAX_VALUE;
    private static final long LEAST = Long.MIN_VALUE;
    private static final String EIGHT = "09b910;90b911;28h922;82c933;55b944;46b950;64b960;38b970";

    /** An object as it can come to be, always made by the same calls, and how many things it has. */
    private record State(String name, int ropes, int trips, int parts, Supplier<GorgeRopes> maker) {
        GorgeRopes make() {
            return maker.get();
        }
    }

    private interface Act {
        long on(GorgeRopes x, int[] v);
    }

    /** A call by its figures: how it refuses, and figures with which the busy one does not. */
    private record Call(String name, long refusal, Act act, int[] base) {
    }

    private static final State NEW = new State("a new object", 0, 0, 0, GorgeRopes::new);
    private static final State BUSY = new State("a busy one", 4, 6, 3, Refusals::busy);
    private static final State EIGHT_ROPES = new State("eight ropes", 8, 20, 5, Refusals::eightRopes);
    private static final State FULL_TEXTS = new State("full texts", 0, 20, 5, Refusals::fullTexts);
    private static final State FAULTY = new State("a fault", 0, 3, 1, Refusals::faulty);
    private static final State[] STATES = {NEW, BUSY, EIGHT_ROPES, FULL_TEXTS, FAULTY};

    private final Sentences said;
    private Observed was;
    private State of;

    Refusals(Sentences said) {
        this.said = said;
    }

    void all() {
        badOfRopes();
        badOfTrips();
        badOfTheMill();
        badOfSheets();
        fullChangesNothing();
        notChangesNothing();
        findingsChangeNothing();
        copyAndWriteFindings();
        theFirstThatFits();
        asLongsAndAnyNumbers();
    }

    // ---- states

    private static GorgeRopes busy() {
        GorgeRopes x = Check.gorge("28b930;82b521;55h612;37c244", "31");
        int[][] trips = {{0, 0, 10, 3, 1}, {1, 0, 14, 6, 0}, {6, 1, 199, 9, 2}, {3, 1, 15, 1, 4}, {2, 0, 0, 0, 3},
            {0, 1, 20, 2, 2}};
        for (int[] t : trips) {
            x.trip(t[0], t[1], t[2], t[3], t[4]);
        }
        x.part(5, 0);
        x.part(2, 2);
        x.part(3, 0);
        x.set(0, 4);
        x.set(1, 50);
        x.set(2, 90);
        sheets(x);
        return x;
    }

    /** Sheets 0 to 2 of a form each, sheet 3 lost; the latest finding is STORE. */
    private static void sheets(GorgeRopes x) {
        for (int s = 0; s < 3; s++) {
            x.sheet(s, s, 3 + s);
            x.lay(s, s, 0, 7 + s);
            x.lay(s, s, 2 + s, -5);
        }
        x.copy(0, 0, 1, 0, 1);
    }

    private static GorgeRopes eightRopes() {
        GorgeRopes x = Check.gorge(EIGHT, "76543210");
        tripsAndParts(x);
        sheets(x);
        return x;
    }

    private static void tripsAndParts(GorgeRopes x) {
        for (int t = 0; t < 20; t++) {
            x.trip(t % 8, t % 2, 9 * t, t % 10, t % 5);
        }
        for (int p = 0; p < 5; p++) {
            x.part(2 * p, p % 3);
        }
    }

    private static GorgeRopes fullTexts() {
        GorgeRopes x = Check.gorge(EIGHT + ";1234", "7654321077");
        tripsAndParts(x);
        x.sheet(0, 2, 60);
        x.lay(0, 2, 59, MAX);
        return x;
    }

    private static GorgeRopes faulty() {
        GorgeRopes x = Check.gorge("28b930;82b525", "10");
        x.trip(0, 0, 10, 3, 1);
        x.trip(1, 1, 11, 4, 2);
        x.trip(0, 0, 12, 5, 3);
        x.part(1, 0);
        x.sheet(3, 1, 0);
        return x;
    }

    // ---- how it is looked at

    private void begin(State state) {
        of = state;
        was = Observed.of(state.make());
    }

    /** What came of refused calls is as the object was; count(8) as due. */
    private void unchanged(String call, GorgeRopes x, int finding) {
        Observed is = Observed.of(x);
        said.holds(call + " of " + of.name + ": " + is.unlike(was), is.unlike(was).isEmpty());
        said.due(call + " of " + of.name + ": count(8)", is.finding(), finding);
        said.holds("too many calls: " + is.calls(), is.calls() <= 300);
    }

    private void bad(int promise, String quote, Call call, Function<State, int[][]> bounds) {
        said.promise(promise, quote);
        for (State state : STATES) {
            begin(state);
            GorgeRopes x = state.make();
            int[][] may = bounds.apply(state);
            for (int k = 0; k < may.length; k++) {
                for (int wrong : new int[] {MIN, may[k][0] - 1, may[k][1] + 1, MAX}) {
                    if (wrong < may[k][0] || wrong > may[k][1]) {
                        refusedWith(call, x, may, k, wrong);
                    }
                }
            }
            unchanged(call.name, x, was.finding());
        }
        lastThatMayBe(call, bounds.apply(BUSY));
    }

    /** With one wrong figure, the others all the least, all the greatest, and as they may be together. */
    private void refusedWith(Call call, GorgeRopes x, int[][] may, int k, int wrong) {
        int[][] others = {ends(may, 0), ends(may, 1), call.base.clone()};
        for (int[] v : others) {
            v[k] = wrong;
            said.due(shown(call.name, v) + " of " + of.name, call.act.on(x, v), call.refusal);
        }
    }

    private static int[] ends(int[][] may, int end) {
        int[] v = new int[may.length];
        for (int i = 0; i < v.length; i++) {
            v[i] = may[i][end];
        }
        return v;
    }

    private void lastThatMayBe(Call call, int[][] may) {
        for (int k = 0; k < may.length; k++) {
            for (int end = 0; end < 2; end++) {
                int[] v = call.base.clone();
                v[k] = may[k][end];
                said.holds(shown(call.name, v) + " is refused", call.act.on(BUSY.make(), v) != call.refusal);
            }
        }
    }

    private static String shown(String name, int[] v) {
        String all = Arrays.toString(v);
        return name + "(" + all.substring(1, all.length() - 1) + ")";
    }

    private void refused(State state, String call, ToLongFunction<GorgeRopes> act, long want) {
        begin(state);
        GorgeRopes x = state.make();
        said.due(call + " of " + state.name, act.applyAsLong(x), want);
        boolean isFinding = want <= NULL && want >= SIZE;
        unchanged(call, x, isFinding ? (int) (-10 - want) : was.finding());
    }

    // ---- BAD, act by act

    private static Call call(String name, long refusal, Act act, int... base) {
        return new Call(name, refusal, act, base);
    }

    private static int[][] bounds(int... v) {
        int[][] bounds = new int[v.length / 2][];
        for (int k = 0; k < bounds.length; k++) {
            bounds[k] = new int[] {v[2 * k], v[2 * k + 1]};
        }
        return bounds;
    }

    private void badOfRopes() {
        bad(2, "BAD; FULL.", call("type", BAD, (x, v) -> x.type(v[0], v[1]), 0, 48), s -> bounds(0, 1, 0, 255));
        bad(3, "BAD.", call("wipe", BAD, (x, v) -> x.wipe(v[0]), 0), s -> bounds(0, 1));
        bad(4, "BAD.", call("fault", BAD, (x, v) -> x.fault(v[0]), 0), s -> bounds(0, 1));
        bad(5, "BAD.", call("rope", BAD, (x, v) -> x.rope(v[0], v[1]), 0, 0),
                s -> bounds(0, s.ropes - 1, 0, 6));
        bad(6, "BAD: also one with itself.", call("crosses", BAD, (x, v) -> x.crosses(v[0], v[1], v[2]), 1, 2, 0),
                s -> bounds(0, s.ropes - 1, 0, s.ropes - 1, 0, 1));
        bad(7, "BAD: likewise;",
                call("crossing", LEAST + 2, (x, v) -> x.crossing(v[0], v[1], v[2], v[3]), 1, 2, 0, 0),
                s -> bounds(0, s.ropes - 1, 0, s.ropes - 1, 0, 1, 0, 1));
        bad(8, "BAD.", call("takes", BAD, (x, v) -> x.takes(v[0], v[1], v[2], v[3]), 0, 0, 0, 0),
                s -> bounds(0, s.ropes - 1, 0, 1, 0, 9, 0, 1));
        bad(9, "BAD.", call("set, GAP", BAD, (x, v) -> x.set(0, v[0]), 1), s -> bounds(1, 9));
        bad(9, "BAD.", call("set, LIFE", BAD, (x, v) -> x.set(1, v[0]), 1), s -> bounds(1, 99));
        bad(9, "BAD.", call("set, LIMIT", BAD, (x, v) -> x.set(2, v[0]), 0), s -> bounds(0, 999));
        bad(9, "BAD.", call("set", BAD, (x, v) -> x.set(v[0], 5), 0), s -> bounds(0, 2));
    }

    private void badOfTrips() {
        bad(10, "BAD; FULL.", call("trip", BAD, (x, v) -> x.trip(v[0], v[1], v[2], v[3], v[4]), 0, 0, 0, 0, 0),
                s -> bounds(0, 7, 0, 1, 0, 199, 0, 9, 0, 4));
        bad(11, "BAD; NULL.", call("read", BAD, (x, v) -> x.read(v[0], v[1]), 0, 0), s -> bounds(0, 3, 0, 4));
        bad(13, "BAD: also one with itself.", call("clash", BAD, (x, v) -> x.clash(v[0], v[1], v[2]), 1, 2, 0),
                s -> bounds(0, s.trips - 1, 0, s.trips - 1, 0, 1));
        bad(15, "BAD.", call("putOff", BAD, (x, v) -> x.putOff(v[0]), 0), s -> bounds(0, s.trips - 1));
        bad(16, "BAD.", call("frayed", BAD, (x, v) -> x.frayed(v[0], v[1]), 0, 0),
                s -> bounds(0, s.ropes - 1, 0, 1));
        bad(17, "BAD.", call("yet", BAD, (x, v) -> x.yet(v[0], v[1]), 0, 0), s -> bounds(0, s.ropes - 1, 0, 9));
    }

    private void badOfTheMill() {
        bad(20, "BAD; FULL.", call("part", BAD, (x, v) -> x.part(v[0], v[1]), 0, 0), s -> bounds(0, 9, 0, 2));
        bad(22, "BAD.", call("sent", BAD, (x, v) -> x.sent(v[0]), 0), s -> bounds(-2, s.parts - 1));
        bad(23, "BAD; NOT.", call("cut", BAD, (x, v) -> x.cut(v[0]), 0), s -> bounds(0, s.ropes - 1));
        bad(25, "BAD.", call("pegs", BAD, (x, v) -> x.pegs(v[0], v[1], v[2], v[3]), 0, 0, 0, 0),
                s -> bounds(0, 2, 0, 9, 0, 9, 0, 2));
        bad(26, "BAD: -10002.", call("balance", -10002, (x, v) -> x.balance(v[0]), 0), s -> bounds(0, 4));
        bad(28, "BAD.", call("knots", LEAST + 2, (x, v) -> x.knots(v[0], v[1], v[2]), 0, 0, 0),
                s -> bounds(0, s.ropes - 1, 0, 9, 0, 99));
    }

    /** An item's number and its value are any int, and so never BAD; what is below 0 items is SIZE. */
    private void badOfSheets() {
        bad(29, "BAD: SHEET, FORM, above 60; SIZE.",
                call("sheet", BAD, (x, v) -> x.sheet(v[0], v[1], v[2]), 0, 0, 0), s -> bounds(0, 3, 0, 2, MIN, 60));
        bad(30, "BAD; NULL.", call("lose", BAD, (x, v) -> x.lose(v[0]), 0), s -> bounds(0, 3));
        bad(31, "BAD; NULL; CAST; INDEX.",
                call("lay", BAD, (x, v) -> x.lay(v[0], v[1], v[2], v[3]), 0, 0, 0, 0),
                s -> bounds(0, 3, 0, 2, MIN, MAX, MIN, MAX));
        bad(33, "BAD: the SHEETS;",
                call("copy", BAD, (x, v) -> x.copy(v[0], v[1], v[2], v[3], v[4]), 0, 0, 0, 0, 0),
                s -> bounds(0, 3, MIN, MAX, 0, 3, MIN, MAX, MIN, MAX));
        bad(34, "BAD; NULL.", call("write", BAD, (x, v) -> x.write(v[0]), 0), s -> bounds(0, 3));
        bad(35, "BAD.", call("count", BAD, (x, v) -> x.count(v[0]), 0), s -> bounds(0, 8));
        said.promise(32, "BAD: the least int;");
        for (State state : STATES) {
            refused(state, "get(-1, 0, 0)", x -> x.get(-1, 0, 0), MIN);
            refused(state, "get(4, 0, 0)", x -> x.get(4, 0, 0), MIN);
            refused(state, "get(0, -1, 0)", x -> x.get(0, -1, 0), MIN);
            refused(state, "get(0, 3, 0)", x -> x.get(0, 3, 0), MIN);
            refused(state, "get(3, MAX, MIN)", x -> x.get(3, MAX, MIN), MIN);
        }
    }

    // ---- FULL, NOT, findings

    private void fullChangesNothing() {
        said.term("They change nothing (FINDINGS but count() 8).");
        refused(FULL_TEXTS, "type(0, 48)", x -> x.type(0, 48), FULL);
        refused(FULL_TEXTS, "type(0, 0)", x -> x.type(0, 0), FULL);
        refused(FULL_TEXTS, "type(1, 255)", x -> x.type(1, 255), FULL);
        for (State state : new State[] {FULL_TEXTS, EIGHT_ROPES}) {
            refused(state, "trip(7, 1, 199, 9, 4)", x -> x.trip(7, 1, 199, 9, 4), FULL);
            refused(state, "trip(0, 0, 0, 0, 0)", x -> x.trip(0, 0, 0, 0, 0), FULL);
            refused(state, "part(9, 2)", x -> x.part(9, 2), FULL);
            refused(state, "part(0, 0)", x -> x.part(0, 0), FULL);
        }
        // No refusal, but nothing comes either.
        refused(FULL_TEXTS, "read(0, 0), no room", x -> x.read(0, 0), 0);
        refused(FAULTY, "read(3, 0), no items", x -> x.read(3, 0), 0);
        refused(FAULTY, "write(3), no items", x -> x.write(3), 0);
        refused(FAULTY, "copy(3, 0, 3, 0, 0), no items", x -> x.copy(3, 0, 3, 0, 0), 1);
        refused(NEW, "gone(), none", x -> x.gone(), 0);
        refused(NEW, "wipe(0), empty", x -> x.wipe(0), 0);
    }

    private void notChangesNothing() {
        said.term("They change nothing (FINDINGS but count() 8).");
        refused(NEW, "undo()", x -> x.undo(), NOT);
        refused(BUSY, "cut(3), the only one of its kind", x -> x.cut(3), NOT);
        refused(EIGHT_ROPES, "cut(2), the only one of its kind", x -> x.cut(2), NOT);
        refused(EIGHT_ROPES, "crossing(2, 7, 0, 0), they do not cross", x -> x.crossing(2, 7, 0, 0), LEAST + 3);
        for (State state : new State[] {BUSY, EIGHT_ROPES}) {
            refused(state, "crosses(1, 1, 0), with itself", x -> x.crosses(1, 1, 0), BAD);
            refused(state, "crossing(1, 1, 0, 0), with itself", x -> x.crossing(1, 1, 0, 0), LEAST + 2);
            refused(state, "clash(1, 1, 0), with itself", x -> x.clash(1, 1, 0), BAD);
        }
    }

    private void findingsChangeNothing() {
        said.term("they change nothing but count() 8");
        for (int s = 0; s < 4; s++) {
            int lost = s;
            refused(NEW, "lose(" + s + ")", x -> x.lose(lost), NULL);
            refused(NEW, "write(" + s + ")", x -> x.write(lost), NULL);
            refused(NEW, "read(" + s + ", 0)", x -> x.read(lost, 0), NULL);
            refused(NEW, "lay(" + s + ", 0, 0, 1)", x -> x.lay(lost, 0, 0, 1), NULL);
            refused(NEW, "copy(" + s + ", 0, 0, 0, 0)", x -> x.copy(lost, 0, 0, 0, 0), NULL);
            refused(NEW, "sheet(" + s + ", 0, -1)", x -> x.sheet(lost, 0, -1), SIZE);
            refused(BUSY, "sheet(" + s + ", 2, -1)", x -> x.sheet(lost, 2, -1), SIZE);
            refused(BUSY, "sheet(" + s + ", 0, MIN)", x -> x.sheet(lost, 0, MIN), SIZE);
        }
        for (int s = 0; s < 3; s++) {
            int form = s;
            for (int wrong : new int[] {-1, 3 + s, 60, MIN, MAX}) {
                refused(BUSY, "lay(" + s + ", .., " + wrong + ", 1)", x -> x.lay(form, form, wrong, 1), INDEX);
            }
            for (int other = 0; other < 3; other++) {
                int cast = other;
                if (cast != form) {
                    refused(BUSY, "lay(" + s + ", " + cast + ", 0, 1)", x -> x.lay(form, cast, 0, 1), CAST);
                }
            }
        }
        refused(FAULTY, "lay(3, 1, 0, 1), no items", x -> x.lay(3, 1, 0, 1), INDEX);
        refused(FULL_TEXTS, "read(1, 0), lost and no room", x -> x.read(1, 0), NULL);
        gettingChangesNothing();
    }

    private void gettingChangesNothing() {
        said.promise(32, "so are NULL, CAST, INDEX (count() 8 tells).");
        int[][] calls = {{3, 0, 0, 1}, {3, 2, -1, 1}, {0, 1, 0, 3}, {2, 1, 9, 3}, {0, 0, 3, 2}, {1, 1, -1, 2},
            {2, 2, MAX, 2}};
        for (int[] c : calls) {
            begin(BUSY);
            GorgeRopes x = BUSY.make();
            String call = "get(" + c[0] + ", " + c[1] + ", " + c[2] + ")";
            said.due(call, x.get(c[0], c[1], c[2]), MIN);
            unchanged(call, x, c[3]);
        }
    }

    private void copyAndWriteFindings() {
        said.term("They change nothing (FINDINGS but count() 8).");
        refused(BUSY, "copy(0, 0, 3, 0, 1)", x -> x.copy(0, 0, 3, 0, 1), NULL);
        refused(BUSY, "copy(3, 0, 0, 0, 1)", x -> x.copy(3, 0, 0, 0, 1), NULL);
        refused(BUSY, "copy(0, 0, 1, 0, 1)", x -> x.copy(0, 0, 1, 0, 1), STORE);
        refused(BUSY, "copy(2, 0, 1, 0, 0)", x -> x.copy(2, 0, 1, 0, 0), STORE);
        // Some would fit: none comes.
        refused(BUSY, "copy(0, 0, 0, 1, 3)", x -> x.copy(0, 0, 0, 1, 3), INDEX);
        refused(BUSY, "copy(0, 1, 0, 0, 3)", x -> x.copy(0, 1, 0, 0, 3), INDEX);
        refused(BUSY, "copy(0, -1, 0, 0, 3)", x -> x.copy(0, -1, 0, 0, 3), INDEX);
        refused(BUSY, "copy(0, 0, 0, -1, 3)", x -> x.copy(0, 0, 0, -1, 3), INDEX);
        refused(BUSY, "copy(0, 0, 0, 1, -1)", x -> x.copy(0, 0, 0, 1, -1), INDEX);
        refused(BUSY, "copy(0, 4, 0, 0, 0)", x -> x.copy(0, 4, 0, 0, 0), INDEX);
        refused(BUSY, "copy(0, 0, 0, 4, 0)", x -> x.copy(0, 0, 0, 4, 0), INDEX);
        refused(BUSY, "copy(0, 1, 0, 0, MAX)", x -> x.copy(0, 1, 0, 0, MAX), INDEX);
        refused(BUSY, "write(3)", x -> x.write(3), NULL);
        refused(BUSY, "read(3, 4)", x -> x.read(3, 4), NULL);
        refused(BUSY, "lose(3)", x -> x.lose(3), NULL);
    }

    // ---- order and form

    private void theFirstThatFits() {
        said.term("Refusals, the first that fits, in the order told at each act: BAD -2 (a number not as told, no such "
                + "thing), NULL, NOT -3 (as told), FULL -4, other FINDINGS.");
        refused(FULL_TEXTS, "type(0, 256), BAD ahead of FULL", x -> x.type(0, 256), BAD);
        refused(FULL_TEXTS, "type(1, -1), BAD ahead of FULL", x -> x.type(1, -1), BAD);
        refused(FULL_TEXTS, "trip(0, 0, 200, 0, 0), BAD ahead of FULL", x -> x.trip(0, 0, 200, 0, 0), BAD);
        refused(FULL_TEXTS, "part(10, 0), BAD ahead of FULL", x -> x.part(10, 0), BAD);
        refused(NEW, "read(0, 5), BAD ahead of NULL", x -> x.read(0, 5), BAD);
        refused(NEW, "lay(0, 3, 0, 0), BAD ahead of NULL", x -> x.lay(0, 3, 0, 0), BAD);
        refused(NEW, "copy(0, 0, 4, 0, 0), BAD ahead of NULL", x -> x.copy(0, 0, 4, 0, 0), BAD);
        refused(NEW, "copy(-1, 0, 0, 0, 0), BAD ahead of NULL", x -> x.copy(-1, 0, 0, 0, 0), BAD);
        refused(BUSY, "sheet(0, 3, -1), BAD ahead of SIZE", x -> x.sheet(0, 3, -1), BAD);
        refused(BUSY, "sheet(4, 0, -1), BAD ahead of SIZE", x -> x.sheet(4, 0, -1), BAD);
        refused(BUSY, "lay(0, 3, -1, 0), BAD ahead of CAST", x -> x.lay(0, 3, -1, 0), BAD);
        refused(BUSY, "lay(3, 0, -1, 0), NULL ahead of INDEX", x -> x.lay(3, 0, -1, 0), NULL);
        refused(BUSY, "lay(0, 1, -1, 0), CAST ahead of INDEX", x -> x.lay(0, 1, -1, 0), CAST);
        refused(BUSY, "copy(0, -1, 3, 0, 0), NULL ahead of INDEX", x -> x.copy(0, -1, 3, 0, 0), NULL);
        refused(BUSY, "copy(0, -1, 1, 0, 0), STORE ahead of INDEX", x -> x.copy(0, -1, 1, 0, 0), STORE);
        refused(EIGHT_ROPES, "crossing(2, 7, 0, 2), BAD ahead of NOT", x -> x.crossing(2, 7, 0, 2), LEAST + 2);
        refused(BUSY, "cut(4), BAD ahead of NOT", x -> x.cut(4), BAD);
    }

    private void asLongsAndAnyNumbers() {
        said.term("Where the answer is a long, a refusal -x is the least long and x more; where any number is "
                + "told, it is -10000 less x.");
        refused(EIGHT_ROPES, "crossing(8, 0, 0, 0)", x -> x.crossing(8, 0, 0, 0), -9223372036854775806L);
        refused(EIGHT_ROPES, "crossing(2, 7, 0, 0)", x -> x.crossing(2, 7, 0, 0), -9223372036854775805L);
        refused(EIGHT_ROPES, "knots(8, 0, 0)", x -> x.knots(8, 0, 0), -9223372036854775806L);
        refused(EIGHT_ROPES, "balance(5)", x -> x.balance(5), -10002);
        refused(EIGHT_ROPES, "balance(-1)", x -> x.balance(-1), -10002);
    }
}
