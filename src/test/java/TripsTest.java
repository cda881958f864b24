/** Promises 10 to 19: trips, their clashes, fray and wind. */
public final class TripsTest {
    private static final int MIN = Integer.MIN_VALUE, MAX = Integer.MAX_VALUE;

    private static final Check CHECK = new Check("TripsTest");

    public static void main(String[] args) {
        promise10Trip();
        promise11Read();
        promise12Undo();
        promise13ClashOnOneRope();
        promise13ClashAtACrossing();
        promise14Clashes();
        promise15PutOff();
        promise16Frayed();
        promise17Yet();
        promise18Heavy();
        promise19Wind();
        CHECK.end();
    }

    private static void due(String call, long got, long want) {
        CHECK.due(call, got, want);
    }

    private static void promise10Trip() {
        GorgeRopes x = new GorgeRopes();
        int[][] bad = {{-1, 0, 0, 0, 0}, {8, 0, 0, 0, 0}, {0, -1, 0, 0, 0}, {0, 2, 0, 0, 0},
            {0, 0, -1, 0, 0}, {0, 0, 200, 0, 0}, {0, 0, 0, -1, 0}, {0, 0, 0, 10, 0}, {0, 0, 0, 0, -1},
            {0, 0, 0, 0, 5}, {MAX, 0, 0, 0, 0}, {0, MIN, 0, 0, 0}, {0, 0, MAX, 0, 0},
            {0, 0, 0, MIN, 0}, {0, 0, 0, 0, MAX}};
        badTrips(x, bad);
        due("10: count(3) after BAD", x.count(3), 0);
        due("10: the least trip", x.trip(0, 0, 0, 0, 0), 0);
        due("10: the greatest trip", x.trip(7, 1, 199, 9, 4), 1);
        for (int i = 2; i < 20; i++) {
            due("10: trip " + i, x.trip(i % 8, i % 2, i, i % 10, i % 5), i);
        }
        due("10: one too many", x.trip(0, 0, 0, 0, 0), -4);
        badTrips(x, bad);
        due("10: count(3), full", x.count(3), 20);
        due("10: count(4), no ropes", x.count(4), 0);
        Check.type(x, 0, "00b000");
        due("10: count(4), one rope", x.count(4), 3);
        Check.type(x, 0, ";00b000;00b000;00b000;00b000;00b000;00b000;00b000");
        due("10: count(4), eight ropes", x.count(4), 20);
    }

    private static void badTrips(GorgeRopes x, int[][] bad) {
        for (int[] b : bad) {
            due("10: trip(" + b[0] + ", " + b[1] + ", " + b[2] + ", " + b[3] + ", " + b[4] + ")",
                    x.trip(b[0], b[1], b[2], b[3], b[4]), -2);
        }
    }

    private static void lay(GorgeRopes x, int s, int form, int... items) {
        x.sheet(s, form, items.length);
        for (int i = 0; i < items.length; i++) {
            x.lay(s, form, i, items[i]);
        }
    }

    private static void promise11Read() {
        for (int form = 0; form < 3; form++) {
            GorgeRopes x = Check.gorge("28b930;82b521");
            lay(x, 3, form, 0, 0, 10, 3, 1, 1, 99, 8, 7, 1, 0, 0, 1, 1, 1);
            due("11: read(3, 4), form " + form, x.read(3, 4), 3);
            due("11: count(3)", x.count(3), 3);
            due("11: count(4), one is over rope 7", x.count(4), 2);
            // rope 0 from the left: 3 * 4 + 6; rope 1 from the right: 2 * 9 + 6
            due("11: count(7)", x.count(7), 18 + 24);
            due("11: balance(4)", x.balance(4), -42);
            due("11: putOff(1)", x.putOff(1), 99);
            due("11: read(3, 4) again", x.read(3, 4), 3);
            due("11: count(3) again", x.count(3), 6);
        }
        int[][] wrong = {{8, 0, 0, 0}, {-1, 0, 0, 0}, {0, 2, 0, 0}, {0, -1, 0, 0}, {0, 0, 200, 0},
            {0, 0, -1, 0}, {0, 0, 0, 10}, {0, 0, 0, -1}};
        for (int[] w : wrong) {
            GorgeRopes x = new GorgeRopes();
            lay(x, 0, 1, 1, 1, 199, 9, w[0], w[1], w[2], w[3], 0, 0, 0, 0);
            due("11: read(0, 0) with " + w[0] + " " + w[1] + " " + w[2] + " " + w[3], x.read(0, 0), 1);
            due("11: count(3) then", x.count(3), 1);
        }
        readSizes();
        readRefusals();
    }

    private static void readSizes() {
        GorgeRopes x = new GorgeRopes();
        for (int n = 0; n <= 60; n += n < 9 ? 1 : 17) {
            GorgeRopes y = new GorgeRopes();
            y.sheet(2, 0, n);
            due("11: read(2, 0), " + n + " items", y.read(2, 0), n / 4);
        }
        x.sheet(0, 0, 60);
        due("11: read(0, 0), 15 trips", x.read(0, 0), 15);
        due("11: read(0, 1), room for 5", x.read(0, 1), 5);
        due("11: read(0, 1), full", x.read(0, 1), 0);
        due("11: count(3)", x.count(3), 20);
    }

    private static void readRefusals() {
        GorgeRopes x = new GorgeRopes();
        int[][] bad = {{-1, 0}, {4, 0}, {0, -1}, {0, 5}, {MIN, 0}, {0, MAX}};
        for (int[] b : bad) {
            due("11: read(" + b[0] + ", " + b[1] + ")", x.read(b[0], b[1]), -2);
        }
        due("11: count(8) after BAD", x.count(8), 0);
        due("11: read(0, 0), lost", x.read(0, 0), -11);
        due("11: count(8) after NULL", x.count(8), 1);
        due("11: read(0, 5), BAD ahead of NULL", x.read(0, 5), -2);
    }

    private static void promise12Undo() {
        GorgeRopes x = Check.gorge("00b900");
        due("12: undo(), none", x.undo(), -3);
        x.trip(0, 0, 0, 1, 0);
        x.trip(0, 0, 0, 2, 0);
        x.trip(5, 0, 0, 3, 0);
        due("12: undo()", x.undo(), 2);
        due("12: undo()", x.undo(), 1);
        due("12: frayed(0, 0), the first is left", x.frayed(0, 0), 2);
        due("12: trip() again", x.trip(0, 0, 0, 5, 0), 1);
        due("12: undo()", x.undo(), 1);
        due("12: undo()", x.undo(), 0);
        due("12: undo(), none again", x.undo(), -3);
    }

    private static void promise13ClashOnOneRope() {
        // 18 minutes from the left, 12 from the right
        GorgeRopes x = Check.gorge("25b900");
        x.trip(0, 0, 50, 0, 0);
        int[][] cases = {{0, 32, 0}, {0, 33, 1}, {0, 50, 1}, {0, 67, 1}, {0, 68, 0}, {1, 38, 0},
            {1, 39, 1}, {1, 50, 1}, {1, 67, 1}, {1, 68, 0}};
        for (int[] c : cases) {
            x.trip(0, c[0], c[1], 0, 0);
            String of = "13: side " + c[0] + ", begin " + c[1] + ": clash";
            due(of + "(0, 1, 0)", x.clash(0, 1, 0), c[2]);
            due(of + "(1, 0, 0)", x.clash(1, 0, 0), c[2]);
            due(of + "(0, 1, 1)", x.clash(0, 1, 1), c[2] == 1 ? 1 : -1);
            due(of + "(1, 0, 1)", x.clash(1, 0, 1), c[2] == 1 ? 1 : -1);
            x.undo();
        }
        x.trip(0, 0, 50, 0, 0);
        x.trip(3, 0, 50, 0, 0);
        x.trip(3, 0, 50, 0, 0);
        due("13: clash(0, 2, 0), it does not count", x.clash(0, 2, 0), 0);
        due("13: clash(2, 3, 0), none counts", x.clash(2, 3, 0), 0);
        due("13: clash(2, 3, 1), none counts", x.clash(2, 3, 1), -1);
        int[][] bad = {{0, 0, 0}, {3, 3, 1}, {-1, 0, 0}, {0, -1, 0}, {4, 0, 0}, {0, 4, 0}, {0, 1, -1},
            {0, 1, 2}, {MAX, 0, 0}, {0, MIN, 1}, {0, 1, MAX}};
        for (int[] b : bad) {
            due("13: clash(" + b[0] + ", " + b[1] + ", " + b[2] + ")", x.clash(b[0], b[1], b[2]), -2);
        }
    }

    /** Over two ropes that cross: how the moments at the crossing are apart, in told minutes. */
    private static void promise13ClashAtACrossing() {
        // They cross a third from the left. Rope 0 takes 12 down, rope 1 takes 18 up from the left:
        // at the crossing after 4 and 6; from the right after 16 (of 24) and 8 (of 12).
        GorgeRopes x = crossingAtAThird();
        due("13: place above", x.crossing(0, 1, 0, 0), 1);
        due("13: place below", x.crossing(0, 1, 0, 1), 3);
        for (int sides = 0; sides < 4; sides++) {
            for (int gap = 1; gap <= 9; gap++) {
                clashesWithin(gap, sides / 2, sides % 2);
            }
        }
        fractionsAreNotRounded();
    }

    private static GorgeRopes crossingAtAThird() {
        return Check.gorge("60b900;36c900", "1");
    }

    private static void clashesWithin(int gap, int sideA, int sideB) {
        int[][] after = {{4, 16}, {6, 8}};
        GorgeRopes x = crossingAtAThird();
        x.set(0, gap);
        for (int apart = -10; apart <= 10; apart++) {
            x.trip(0, sideA, 50 - after[0][sideA], 0, 0);
            x.trip(1, sideB, 50 + apart - after[1][sideB], 0, 0);
            boolean clash = Math.abs(apart) < gap;
            String of = "13: sides " + sideA + " " + sideB + ", gap " + gap + ", apart " + apart + ": clash";
            due(of + "(0, 1, 0)", x.clash(0, 1, 0), clash ? 1 : 0);
            due(of + "(1, 0, 1), rope 1 has more right", x.clash(1, 0, 1), clash ? 0 : -1);
            x.undo();
            x.undo();
        }
    }

    private static void fractionsAreNotRounded() {
        // At three eighths of 22 and of 12 minutes: after 8 1/4 and 4 1/2.
        GorgeRopes x = Check.gorge("05b900;30c900");
        x.set(0, 1);
        x.trip(0, 0, 10, 0, 0);
        int[] begins = {12, 13, 14, 15};
        int[] clash = {0, 1, 1, 0};
        for (int i = 0; i < 4; i++) {
            x.trip(1, 0, begins[i], 0, 0);
            due("13: moments apart by fractions, begin " + begins[i], x.clash(0, 1, 0), clash[i]);
            due("13: rope 0 has more right", x.clash(0, 1, 1), clash[i] == 1 ? 1 : -1);
            x.undo();
        }
        Check.type(x, 1, "10");
        x.trip(1, 0, 14, 0, 0);
        due("13: rope 1 has more right now", x.clash(0, 1, 1), 0);
        Check.retype(x, 1, "1x");
        due("13: with a fault it is by numbers", x.clash(0, 1, 1), 1);
        Check.retype(x, 0, "05b900;35c900");
        due("13: they end on one peg and do not cross", x.clash(0, 1, 0), 0);
    }

    private static void promise14Clashes() {
        GorgeRopes x = Check.gorge("55b900;28c900;82h900");
        due("14: clashes(), no trips", x.clashes(), 0);
        for (int i = 0; i < 4; i++) {
            x.trip(0, i % 2, 10, 0, 0);
        }
        due("14: clashes(), four on one rope", x.clashes(), 6);
        x.trip(1, 0, 4, 0, 0);
        due("14: clashes(), one crosses all at 16", x.clashes(), 10);
        x.trip(2, 1, 4, 0, 0);
        due("14: clashes(), another, too", x.clashes(), 15);
        x.trip(4, 0, 10, 0, 0);
        due("14: clashes(), one that does not count", x.clashes(), 15);
        x.wipe(0);
        due("14: clashes(), none counts", x.clashes(), 0);
        GorgeRopes full = Check.gorge("00b000");
        full.sheet(0, 0, 60);
        full.read(0, 0);
        full.read(0, 0);
        due("14: clashes(), twenty", full.clashes(), 190);
    }

    private static void promise15PutOff() {
        GorgeRopes x = Check.gorge("25b900;00c900", "10");
        int[][] trips = {{0, 0, 5}, {0, 1, 0}, {1, 0, 7}, {0, 0, 40}, {6, 0, 0}, {1, 1, 7}};
        for (int[] t : trips) {
            x.trip(t[0], t[1], t[2], 0, 0);
        }
        // by numbers: 0 from 5 to 23; 1 from 23 to 35; 3 from 40 on; 2 from 7 to 19, 5 behind it
        int[] want = {5, 23, 7, 40, -1, 19};
        for (int t = 0; t < 6; t++) {
            due("15: putOff(" + t + ")", x.putOff(t), want[t]);
        }
        int[] bad = {-1, 6, MIN, MAX};
        for (int b : bad) {
            due("15: putOff(" + b + ")", x.putOff(b), -2);
        }
        putOffIntoAHole();
        putOffAtACrossing();
        putOffBeyondTheLastMinute();
    }

    private static void putOffIntoAHole() {
        GorgeRopes x = Check.gorge("00b900");
        x.trip(0, 0, 12, 0, 0);
        x.trip(0, 0, 36, 0, 0);
        x.trip(0, 0, 1, 0, 0);
        x.trip(0, 0, 0, 0, 0);
        due("15: putOff(2), between two", x.putOff(2), 24);
        due("15: putOff(3), ahead of all", x.putOff(3), 0);
    }

    private static void putOffAtACrossing() {
        // Both are at the crossing after 12 of 24 and 6 of 12 minutes.
        GorgeRopes x = Check.gorge("28b900;55c900", "1");
        x.trip(0, 0, 4, 0, 0);
        x.trip(1, 0, 10, 0, 0);
        due("15: putOff(1), it has more right", x.putOff(1), 10);
        due("15: putOff(0), until they are GAP apart", x.putOff(0), 7);
        x.set(0, 9);
        due("15: putOff(0), GAP 9", x.putOff(0), 13);
        x.wipe(1);
        due("15: putOff(0), by numbers", x.putOff(0), 4);
        due("15: putOff(1), by numbers", x.putOff(1), 19);
        x.set(0, 1);
        due("15: putOff(1), GAP 1", x.putOff(1), 11);
    }

    private static void putOffBeyondTheLastMinute() {
        GorgeRopes x = Check.gorge("09b900");
        for (int t = 0; t < 20; t++) {
            x.trip(0, 0, 199, 0, 0);
        }
        for (int t = 0; t < 20; t++) {
            due("15: putOff(" + t + ") of twenty", x.putOff(t), 199 + 30 * t);
        }
    }

    private static void promise16Frayed() {
        GorgeRopes x = Check.gorge("00b900;00c100");
        due("16: frayed(0, 0), no trips", x.frayed(0, 0), 0);
        due("16: frayed(0, 1), no trips", x.frayed(0, 1), -1);
        int[][] trips = {{0, 9}, {1, 9}, {0, 9}, {0, 9}, {1, 0}, {0, 9}, {0, 0}, {0, 5}};
        for (int[] t : trips) {
            x.trip(t[0], 0, 0, t[1], 0);
        }
        due("16: frayed(0, 0)", x.frayed(0, 0), 47);
        due("16: frayed(0, 1), 41 is more than 40", x.frayed(0, 1), 6);
        due("16: frayed(1, 0)", x.frayed(1, 0), 11);
        due("16: frayed(1, 1)", x.frayed(1, 1), -1);
        int[][] lives = {{1, 0}, {10, 2}, {30, 5}, {40, 6}, {41, 7}, {46, 7}, {47, -1}, {99, -1}};
        for (int[] life : lives) {
            x.set(1, life[0]);
            due("16: frayed(0, 1), LIFE " + life[0], x.frayed(0, 1), life[1]);
        }
        int[][] bad = {{-1, 0}, {2, 0}, {0, -1}, {0, 2}, {MAX, 1}, {0, MIN}};
        for (int[] b : bad) {
            due("16: frayed(" + b[0] + ", " + b[1] + ")", x.frayed(b[0], b[1]), -2);
        }
    }

    private static void promise17Yet() {
        GorgeRopes x = Check.gorge("00b900;00c100");
        due("17: yet(0, 0), new", x.yet(0, 0), 40);
        due("17: yet(0, 9), new", x.yet(0, 9), 4);
        due("17: yet(0, 8), new", x.yet(0, 8), 4);
        due("17: yet(0, 6), new", x.yet(0, 6), 5);
        due("17: yet(1, 9), more than it bears is no matter", x.yet(1, 9), 4);
        x.trip(0, 0, 0, 9, 0);
        x.trip(0, 0, 0, 9, 0);
        x.set(1, 25);
        due("17: yet(0, 4)", x.yet(0, 4), 1);
        due("17: yet(0, 5)", x.yet(0, 5), 0);
        due("17: yet(0, 0)", x.yet(0, 0), 5);
        due("17: yet(1, 4)", x.yet(1, 4), 5);
        x.set(1, 20);
        due("17: yet(0, 0), at its end", x.yet(0, 0), 0);
        x.set(1, 9);
        due("17: yet(0, 0), it broke", x.yet(0, 0), 0);
        due("17: yet(0, 9), it broke", x.yet(0, 9), 0);
        int[][] bad = {{-1, 0}, {2, 0}, {0, -1}, {0, 10}, {MIN, 0}, {0, MIN}, {0, MAX}};
        for (int[] b : bad) {
            due("17: yet(" + b[0] + ", " + b[1] + ")", x.yet(b[0], b[1]), -2);
        }
    }

    private static void promise18Heavy() {
        GorgeRopes x = Check.gorge("00b500;00c000");
        due("18: heavy(), no trips", x.heavy(), 0);
        int[][] trips = {{0, 5}, {0, 6}, {1, 0}, {1, 1}, {2, 9}, {0, 9}};
        for (int[] t : trips) {
            x.trip(t[0], 0, 0, t[1], 0);
        }
        due("18: heavy()", x.heavy(), 2 + 8 + 32);
        Check.type(x, 0, ";00b800");
        due("18: heavy(), a third rope", x.heavy(), 2 + 8 + 16 + 32);
        x.wipe(0);
        due("18: heavy(), none counts", x.heavy(), 0);
        GorgeRopes full = Check.gorge("00b000");
        for (int t = 0; t < 20; t++) {
            full.trip(0, 0, 0, 1, 0);
        }
        due("18: heavy(), twenty", full.heavy(), (1 << 20) - 1);
    }

    /** By how much a trip is late in the wind: which later trips over its rope it clashes with. */
    private static void promise19Wind() {
        int[] seeds = {0, 1, -1, 7, 12345, MIN, MAX};
        for (int seed : seeds) {
            int now = seed;
            int[] late = new int[3];
            for (int t = 0; t < 3; t++) {
                now = 1103515245 * now + 12345;
                late[t] = (now >>> 16) % 4;
            }
            for (int second = 6; second <= 20; second++) {
                GorgeRopes x = Check.gorge("00b900");
                x.trip(0, 0, 0, 0, 0);
                x.trip(5, 0, 0, 0, 0);
                x.trip(0, 0, second, 0, 0);
                x.trip(0, 0, second + 12, 0, 0);
                // trip 1 does not count, and so draws no lot
                int a = late[0];
                int b = second + late[1];
                int c = second + 12 + late[2];
                int want = (b < a + 12 ? 1 : 0) + (c < a + 12 ? 1 : 0) + (c < b + 12 ? 1 : 0);
                due("19: wind(" + seed + "), second at " + second, x.wind(seed), want);
                due("19: putOff(0) is as it was", x.putOff(0), 0);
            }
        }
    }
}
