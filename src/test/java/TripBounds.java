import java.math.BigInteger;

/** Boundary cases of trips, clashes, putting off, fray and wind, sentence by sentence. */
final class TripBounds {
    private static final int NONE = -1, BAD = -2, NOT = -3, FULL = -4, NULL = -11;
    private static final int MIN = Integer.MIN_VALUE, MAX = Integer.MAX_VALUE;

    private final Sentences said;

    TripBounds(Sentences said) {
        this.said = said;
    }

    void all() {
        twentyAtMost();
        whatATripMayBe();
        thoseThatDoNotCount();
        readTrips();
        readAsLongAsEachMayBe();
        undone();
        clashOnOneRope();
        clashAtACrossing();
        clashAtAFraction();
        pairs();
        faultOfAPair();
        putOffFromItsOwnOn();
        putOffByRightThenNumbers();
        putOffAtACrossing();
        frayedAndBroken();
        bearsYet();
        heavy();
        windOfTripsThatCount();
        lots();
    }

    /** So many trips over rope 0 from the left at minute 0. */
    private static GorgeRopes trips(String ropes, int n) {
        GorgeRopes x = Check.gorge(ropes);
        for (int t = 0; t < n; t++) {
            x.trip(0, 0, 0, 0, 0);
        }
        return x;
    }

    // ---- trip, read, undo

    private void twentyAtMost() {
        said.term("2 TRIPS, 20 at most");
        GorgeRopes x = new GorgeRopes();
        for (int t = 0; t < 20; t++) {
            said.due("trip " + t, x.trip(0, 0, 0, 0, 0), t);
        }
        said.due("trip 20", x.trip(0, 0, 0, 0, 0), FULL);
        said.due("count(3)", x.count(3), 20);
        said.due("undo()", x.undo(), 19);
        said.due("trip 19 again", x.trip(0, 0, 0, 0, 0), 19);
        said.due("trip 20 again", x.trip(0, 0, 0, 0, 0), FULL);
        said.promise(10, "A TRIP more: its number.");
        GorgeRopes y = new GorgeRopes();
        said.due("the first, over no rope", y.trip(7, 1, 199, 9, 4), 0);
        said.due("another", y.trip(0, 0, 0, 0, 0), 1);
        said.due("count(3)", y.count(3), 2);
    }

    private void whatATripMayBe() {
        said.term("over a ROPE (0 to 7), from a side, beginning at a MINUTE (0 to 199), with a LOAD (0 to 9), "
                + "for an OWNER (0 to 4; who pays).");
        int[] last = {7, 1, 199, 9, 4};
        for (int k = 0; k < 5; k++) {
            for (int other = 0; other < 2; other++) {
                int[] v = other == 0 ? new int[5] : last.clone();
                GorgeRopes x = new GorgeRopes();
                v[k] = 0;
                said.due("trip() with figure " + k + " 0", x.trip(v[0], v[1], v[2], v[3], v[4]), 0);
                v[k] = last[k];
                said.due("trip() with figure " + k + " " + v[k], x.trip(v[0], v[1], v[2], v[3], v[4]), 1);
                for (int wrong : new int[] {-1, last[k] + 1, MIN, MAX}) {
                    v[k] = wrong;
                    said.due("trip() with figure " + k + " " + wrong,
                            x.trip(v[0], v[1], v[2], v[3], v[4]), BAD);
                }
                said.due("count(3)", x.count(3), 2);
            }
        }
        GorgeRopes x = Check.gorge("00b914");
        x.trip(0, 0, 199, 9, 0);
        said.due("balance(0), who pays", x.balance(0), -10);
        said.due("balance(4), who gets it", x.balance(4), 10);
        said.due("putOff(0), the last minute", x.putOff(0), 199);
    }

    private void thoseThatDoNotCount() {
        said.term("Those over ROPES that there are not (now) do not count in what follows.");
        GorgeRopes x = Check.gorge(RopeBounds.ropes(7).replace("000", "010"));
        for (int t = 0; t < 2; t++) {
            x.trip(6, 0, 0, 9, 1);
            x.trip(7, 0, 0, 9, 1);
        }
        counting("seven ropes", x, 2, 1, 5, 20, NONE);
        Check.type(x, 0, ";77b010");
        counting("eight ropes", x, 4, 2, 15, 40, 0);
        x.type(0, ';');
        counting("a fault", x, 0, 0, 0, 0, NONE);
        x.wipe(0);
        counting("no ropes", x, 0, 0, 0, 0, NONE);
        Check.type(x, 0, RopeBounds.ropes(8).replace("000", "010"));
        counting("eight ropes again", x, 4, 2, 15, 40, 0);
        said.due("count(3), they are still there", x.count(3), 4);
        for (int begin = 0; begin < 40; begin++) {
            anOldCrossingIsGone(begin, begin % 2);
            anOldCrossingIsGone(begin, 1 - begin % 2);
        }
        said.promise(15, "PUT OFF: when a TRIP begins; NONE: it does not count.");
        oldRopesAreGone();
        Check.retype(x, 0, "00b000");
        for (int t = 0; t < 4; t++) {
            said.due("putOff(" + t + ")", x.putOff(t), NONE);
        }
        said.due("putOff(4), no such trip", x.putOff(4), BAD);
    }

    /** A trip over a rope that is there no more is in nobody's way, though the rope crossed the other's. */
    private void anOldCrossingIsGone(int begin, int side) {
        for (int old = 0; old < 2; old++) {
            GorgeRopes x = Check.gorge("09b910;90b910");
            for (int t = 0; t < 2; t++) {
                x.trip(t == old ? 1 : 0, t == old ? 1 : side, t == old ? 0 : begin, 0, 0);
            }
            Check.retype(x, 0, "09b910");
            String of = "trip " + old + " over an old rope, the other at " + begin + ": ";
            said.due(of + "clash(0, 1, 0)", x.clash(0, 1, 0), 0);
            said.due(of + "clash(1, 0, 0)", x.clash(1, 0, 0), 0);
            said.due(of + "clash(0, 1, 1)", x.clash(0, 1, 1), NONE);
            said.due(of + "clashes()", x.clashes(), 0);
            said.due(of + "wind(1)", x.wind(1), 0);
            said.due(of + "putOff() of the other", x.putOff(1 - old), begin);
        }
    }

    /** A trip over each of eight ropes, of which fewer and fewer are left. */
    private void oldRopesAreGone() {
        GorgeRopes x = Check.gorge(RopeBounds.ropes(8), "76543210");
        for (int t = 0; t < 8; t++) {
            x.trip(t, 0, t, 0, 0);
        }
        for (int n = 8; n >= 0; n -= 2) {
            Check.retype(x, 0, RopeBounds.ropes(n));
            for (int t = 0; t < 8; t++) {
                said.due("putOff(" + t + "), " + n + " ropes", x.putOff(t), t < n ? t : NONE);
            }
        }
    }

    /** All that is told of trips 0 and 2 over rope 6, and of 1 and 3 over rope 7. */
    private void counting(String of, GorgeRopes x, int count, int clashes, int heavy, int cost, int second) {
        said.due(of + ": count(4)", x.count(4), count);
        said.due(of + ": clashes()", x.clashes(), clashes);
        said.due(of + ": wind(0), like trips as far as 3 apart", x.wind(0), clashes);
        said.due(of + ": heavy()", x.heavy(), heavy);
        said.due(of + ": count(7)", x.count(7), cost);
        said.due(of + ": balance(1)", x.balance(1), -cost);
        said.due(of + ": balance(0)", x.balance(0), cost);
        said.due(of + ": settled()", x.settled(), cost == 0 ? 0 : 1);
        said.due(of + ": clash(0, 2, 0)", x.clash(0, 2, 0), clashes > 0 ? 1 : 0);
        said.due(of + ": clash(1, 3, 0)", x.clash(1, 3, 0), clashes > 1 ? 1 : 0);
        said.due(of + ": clash(1, 3, 1)", x.clash(1, 3, 1), clashes > 1 ? 3 : NONE);
        said.due(of + ": putOff(1)", x.putOff(1), second);
    }

    private static void lay(GorgeRopes x, int s, int form, int... items) {
        x.sheet(s, form, items.length);
        for (int i = 0; i < items.length; i++) {
            x.lay(s, form, i, items[i]);
        }
    }

    private void readTrips() {
        said.promise(11, "its items, four for each (ROPE, side, begin, LOAD), as many as are whole");
        for (int n = 0; n <= 60; n++) {
            GorgeRopes x = new GorgeRopes();
            x.sheet(n % 4, n % 3, n);
            said.due("read(), " + n + " items", x.read(n % 4, 4), n / 4);
            said.due("count(3), " + n + " items", x.count(3), n / 4);
        }
        GorgeRopes x = Check.gorge("09b910;09b911");
        lay(x, 0, 2, 1, 0, 199, 9);
        said.due("read(0, 4)", x.read(0, 4), 1);
        said.due("putOff(0), begin", x.putOff(0), 199);
        said.due("frayed(1, 0), ROPE and LOAD", x.frayed(1, 0), 10);
        said.due("balance(4), OWNER and side", x.balance(4), -19);
        lay(x, 0, 2, 1, 1, 3, 0, 1, 1, 40, 0);
        said.due("read(0, 3)", x.read(0, 3), 2);
        said.due("balance(3), from the right there is no climb", x.balance(3), -2);
        said.promise(11, "and there is room: how many came.");
        for (int had = 0; had <= 20; had++) {
            GorgeRopes y = trips("00b000", had);
            y.sheet(3, 0, 60);
            int came = Math.min(15, 20 - had);
            said.due("read(3, 0) behind " + had, y.read(3, 0), came);
            said.due("count(3) behind " + had, y.count(3), had + came);
            said.due("count(8), having no room is no finding", y.count(8), 0);
        }
        said.promise(11, "BAD; NULL.");
        GorgeRopes y = new GorgeRopes();
        said.due("read(0, 0), lost", y.read(0, 0), NULL);
        said.due("read(3, 4), lost", y.read(3, 4), NULL);
        said.due("read(3, 5), BAD ahead of NULL", y.read(3, 5), BAD);
        said.due("read(3, -1), BAD ahead of NULL", y.read(3, -1), BAD);
        y.sheet(0, 0, 0);
        said.due("read(0, 4), no items", y.read(0, 4), 0);
        GorgeRopes full = trips("00b000", 20);
        said.due("read(0, 0), lost and no room", full.read(0, 0), NULL);
    }

    private void readAsLongAsEachMayBe() {
        said.promise(11, "as long as each may be");
        int[] last = {7, 1, 199, 9};
        for (int k = 0; k < 4; k++) {
            for (int v : new int[] {0, last[k], -1, last[k] + 1, MIN, MAX}) {
                GorgeRopes x = new GorgeRopes();
                int[] items = new int[12];
                items[4 + k] = v;
                lay(x, 1, 2, items);
                boolean may = v >= 0 && v <= last[k];
                String of = ", figure " + k + " of the second " + v;
                said.due("read(1, 0)" + of, x.read(1, 0), may ? 3 : 1);
                said.due("count(3)" + of, x.count(3), may ? 3 : 1);
                said.due("count(8)" + of, x.count(8), 0);
            }
        }
        GorgeRopes x = new GorgeRopes();
        lay(x, 0, 0, 0, 0, 199, 0);
        said.due("read(0, 0), 199 as a byte is below 0", x.read(0, 0), 0);
        lay(x, 0, 1, 0, 0, 65536 + 199, 0);
        said.due("read(0, 0), as a short it is 199", x.read(0, 0), 1);
        lay(x, 0, 2, 8, 0, 0, 0, 0, 0, 0, 0);
        said.due("read(0, 0), the first may not be", x.read(0, 0), 0);
    }

    private void undone() {
        said.promise(12, "The last TRIP is undone: how many are left.");
        GorgeRopes x = trips("00b000", 20);
        for (int left = 19; left >= 0; left--) {
            said.due("undo()", x.undo(), left);
            said.due("count(3)", x.count(3), left);
            said.due("frayed(0, 0)", x.frayed(0, 0), left);
        }
        said.promise(12, "NOT: none.");
        said.due("undo(), none left", x.undo(), NOT);
        said.due("undo() of a new object", new GorgeRopes().undo(), NOT);
        said.due("trip() then", x.trip(0, 0, 0, 0, 0), 0);
        said.due("undo(), also one that does not count", trips("", 1).undo(), 0);
    }

    // ---- clashes

    private void clashOnOneRope() {
        said.term("over one ROPE, if one begins ahead of the end of the other and ends behind its beginning");
        for (int rise = 0; rise <= 9; rise++) {
            GorgeRopes x = Check.gorge("0" + rise + "b900");
            int[] takes = {12 + 2 * rise, 12};
            for (int sides = 0; sides < 4; sides++) {
                int a = sides / 2;
                int b = sides % 2;
                x.trip(0, a, 100, 0, 0);
                clashAt(x, b, 100 - takes[b], 0);
                clashAt(x, b, 100 - takes[b] + 1, 1);
                clashAt(x, b, 100, 1);
                clashAt(x, b, 100 + takes[a] - 1, 1);
                clashAt(x, b, 100 + takes[a], 0);
                x.undo();
            }
        }
    }

    private void clashAt(GorgeRopes x, int side, int begin, int want) {
        x.trip(0, side, begin, 0, 0);
        said.due("clash(0, 1, 0), side " + side + ", begin " + begin, x.clash(0, 1, 0), want);
        said.due("clash(1, 0, 0), side " + side + ", begin " + begin, x.clash(1, 0, 0), want);
        x.undo();
    }

    private void clashAtACrossing() {
        said.term("over two that CROSS, if the moments at which they are at that PLACE are less than GAP "
                + "apart.");
        // Halfway of 24 and of 12 minutes: after 12 and 6.
        for (int gap = 1; gap <= 9; gap++) {
            for (int apart : new int[] {-gap - 1, -gap, 1 - gap, 0, gap - 1, gap, gap + 1}) {
                GorgeRopes x = Check.gorge("28b900;82b900");
                x.set(0, gap);
                x.trip(0, 0, 50, 0, 0);
                x.trip(1, 0, 56 + apart, 0, 0);
                int want = Math.abs(apart) < gap ? 1 : 0;
                said.due("clash(0, 1, 0), gap " + gap + ", apart " + apart, x.clash(0, 1, 0), want);
                said.due("clash(1, 0, 0), gap " + gap + ", apart " + apart, x.clash(1, 0, 0), want);
            }
        }
        GorgeRopes x = Check.gorge("28b900;29b900");
        x.set(0, 9);
        x.trip(0, 0, 50, 0, 0);
        x.trip(1, 0, 50, 0, 0);
        said.due("clash(0, 1, 0), they do not cross", x.clash(0, 1, 0), 0);
        said.promise(13, "Whether two TRIPS CLASH (what = 0; 1, 0), whose FAULT it is (1; NONE: they do not).");
        said.due("clash(0, 1, 1), they do not", x.clash(0, 1, 1), NONE);
        x.trip(0, 1, 73, 0, 0);
        x.trip(0, 1, 74, 0, 0);
        said.due("clash(0, 2, 0)", x.clash(0, 2, 0), 1);
        said.due("clash(0, 2, 1)", x.clash(0, 2, 1), 2);
        said.due("clash(0, 3, 0)", x.clash(0, 3, 0), 0);
        said.due("clash(0, 3, 1)", x.clash(0, 3, 1), NONE);
        said.promise(13, "BAD: also one with itself.");
        for (int t = 0; t < 4; t++) {
            said.due("clash(" + t + ", " + t + ", 0)", x.clash(t, t, 0), BAD);
            said.due("clash(" + t + ", " + t + ", 1)", x.clash(t, t, 1), BAD);
        }
    }

    /** Many pegs, all sides, some delays: moments by fractions of the told PLACE. */
    private void clashAtAFraction() {
        said.term("if the moments at which they are at that PLACE are less than GAP apart.");
        for (int k = 0; k < 10000; k += 7) {
            int[] p = {k / 1000, k / 100 % 10, k / 10 % 10, k % 10};
            if (p[0] < p[2] == p[1] > p[3] && p[0] != p[2] && p[1] != p[3]) {
                for (int sides = 0; sides < 4; sides++) {
                    moments(p, sides / 2, sides % 2);
                }
            }
        }
    }

    private void moments(int[] p, int sideA, int sideB) {
        GorgeRopes x = Check.gorge(p[0] + "" + p[1] + "b000;" + p[2] + "" + p[3] + "b000");
        long above = x.crossing(0, 1, 0, 0);
        long below = x.crossing(0, 1, 0, 1);
        long wayA = sideA == 0 ? above : below - above;
        long wayB = sideB == 0 ? above : below - above;
        x.set(0, 2);
        x.trip(0, sideA, 100, 0, 0);
        for (int begin = 76; begin <= 124; begin += 3) {
            x.trip(1, sideB, begin, 0, 0);
            long a = 100 * below + x.takes(0, sideA, 0, 0) * wayA;
            long b = begin * below + x.takes(1, sideB, 0, 0) * wayB;
            said.due("pegs " + p[0] + " " + p[1] + " " + p[2] + " " + p[3] + ", sides " + sideA + " " + sideB
                    + ", begin " + begin, x.clash(0, 1, 0), Math.abs(a - b) < 2 * below ? 1 : 0);
            x.undo();
        }
    }

    private void pairs() {
        said.term("CLASHES: how many pairs.");
        for (int n = 0; n <= 20; n++) {
            said.due("clashes() of " + n, trips("00b000", n).clashes(), n * (n - 1) / 2);
        }
        said.promise(14, "CLASHES.");
        said.due("clashes() of a new object", new GorgeRopes().clashes(), 0);
        said.due("clashes() of 20 that do not count", trips("", 20).clashes(), 0);
        said.due("clashes() of 20", trips("00b000", 20).clashes(), 190);
    }

    private void faultOfAPair() {
        said.term("FAULT of a pair: the one whose ROPE has less RIGHT");
        String[] rights = {"", "0", "01", "1", "10", "11", "2", "1x"};
        int[] guiltyRope = {1, 1, 1, 0, 0, 1, 1, 1};
        for (int i = 0; i < rights.length; i++) {
            for (int first = 0; first < 2; first++) {
                GorgeRopes x = Check.gorge("28b900;82b900", rights[i]);
                x.trip(first, 0, first == 0 ? 50 : 56, 0, 0);
                x.trip(1 - first, 0, first == 0 ? 56 : 50, 0, 0);
                int want = guiltyRope[i] == first ? 0 : 1;
                said.due("clash(0, 1, 1) by " + rights[i], x.clash(0, 1, 1), want);
                said.due("clash(1, 0, 1) by " + rights[i], x.clash(1, 0, 1), want);
            }
        }
        said.term("on one ROPE the greater number.");
        GorgeRopes x = trips("00b000", 20);
        said.due("clash(0, 19, 1)", x.clash(0, 19, 1), 19);
        said.due("clash(19, 0, 1)", x.clash(19, 0, 1), 19);
        said.due("clash(1, 0, 1)", x.clash(1, 0, 1), 1);
    }

    // ---- putting off

    private void putOffFromItsOwnOn() {
        said.term("it begins at the first MINUTE, from its own on, at which it CLASHES with none of those ahead");
        for (int begin : new int[] {0, 1, 198, 199}) {
            GorgeRopes x = Check.gorge("00b000");
            x.trip(0, 0, begin, 0, 0);
            said.due("putOff(0), alone at " + begin, x.putOff(0), begin);
        }
        int[][] behind = {{38, 38}, {39, 62}, {50, 62}, {61, 62}, {62, 62}, {63, 63}};
        for (int[] b : behind) {
            GorgeRopes x = Check.gorge("00b000");
            x.trip(0, 0, 50, 0, 0);
            x.trip(0, 0, b[0], 0, 0);
            said.due("putOff(1) at " + b[0] + " behind one at 50", x.putOff(1), b[1]);
            said.due("putOff(0), none is ahead", x.putOff(0), 50);
        }
        holes();
        GorgeRopes last = Check.gorge("09b000");
        for (int t = 0; t < 20; t++) {
            last.trip(0, 0, 199, 0, 0);
        }
        for (int t = 0; t < 20; t++) {
            said.due("putOff(" + t + "), all at 199", last.putOff(t), 199 + 30 * t);
        }
        said.due("clashes(), as they were told still", last.clashes(), 190);
        said.promise(15, "BAD.");
        said.due("putOff(20)", last.putOff(20), BAD);
        said.due("putOff(-1)", last.putOff(-1), BAD);
    }

    /** A hole between two is taken if the trip fits, to the minute. */
    private void holes() {
        for (int hole = 11; hole <= 13; hole++) {
            GorgeRopes x = Check.gorge("00b000");
            x.trip(0, 0, 20, 0, 0);
            x.trip(0, 0, 32 + hole, 0, 0);
            x.trip(0, 1, 10, 0, 0);
            said.due("putOff(2), a hole of " + hole, x.putOff(2), hole < 12 ? 44 + hole : 32);
        }
    }

    private void putOffByRightThenNumbers() {
        said.term("PUT OFF: one TRIP after the other, by RIGHT of the ROPE, then by numbers");
        String[] rights = {"", "2", "21", "120", "22"};
        // Level ropes that do not cross: by numbers on each, whatever the right is.
        for (String right : rights) {
            GorgeRopes x = Check.gorge("00b000;11b000;22b000", right);
            for (int t = 0; t < 6; t++) {
                x.trip(t % 3, 0, 5, 0, 0);
            }
            for (int t = 0; t < 6; t++) {
                said.due("putOff(" + t + ") by " + right, x.putOff(t), t < 3 ? 5 : 17);
            }
        }
        // Each crosses each halfway, after six minutes: who has more right goes first.
        int[][] ofRope = {{10, 13, 16}, {13, 16, 10}, {16, 13, 10}, {16, 10, 13}, {10, 13, 16}};
        for (int i = 0; i < rights.length; i++) {
            GorgeRopes x = Check.gorge("91b000;82b000;55b000", rights[i]);
            for (int rope = 2; rope >= 0; rope--) {
                x.trip(rope, 0, 10, 0, 0);
            }
            for (int t = 0; t < 3; t++) {
                said.due("putOff(" + t + "), all cross, by " + rights[i], x.putOff(t), ofRope[i][2 - t]);
            }
        }
    }

    private void putOffAtACrossing() {
        said.term("at which it CLASHES with none of those ahead: when.");
        for (int gap = 1; gap <= 9; gap++) {
            for (int begin = 50 - gap - 1; begin <= 50 + gap + 1; begin++) {
                GorgeRopes x = Check.gorge("55b000;64b000");
                x.set(0, gap);
                x.trip(0, 0, 50, 0, 0);
                x.trip(1, 0, begin, 0, 0);
                int want = Math.abs(begin - 50) < gap ? 50 + gap : begin;
                said.due("putOff(1) at " + begin + ", gap " + gap, x.putOff(1), want);
            }
        }
    }

    // ---- fray

    private void frayedAndBroken() {
        said.term("FRAYED: all TRIPS over a ROPE together");
        GorgeRopes most = Check.gorge("00b000;00b000");
        for (int t = 0; t < 20; t++) {
            said.due("frayed(1, 0), " + t + " trips", most.frayed(1, 0), 10 * t);
            most.trip(1, t % 2, 0, 9, 0);
        }
        said.due("frayed(1, 0), twenty", most.frayed(1, 0), 200);
        said.due("frayed(0, 0), none", most.frayed(0, 0), 0);
        said.term("BREAKS: the TRIP over it (by numbers) with which FRAYED is more than LIFE; NONE;");
        int[][] lives = {{1, 2}, {9, 2}, {10, 4}, {11, 4}, {14, 4}, {15, 5}, {24, 5}, {25, NONE}, {99, NONE}};
        for (int[] life : lives) {
            GorgeRopes x = Check.gorge("00b000;00b000");
            int[][] trips = {{1, 9}, {7, 9}, {0, 9}, {1, 9}, {0, 4}, {0, 9}};
            for (int[] t : trips) {
                x.trip(t[0], 0, 199 - t[1], t[1], 0);
            }
            x.set(1, life[0]);
            said.due("frayed(0, 1), LIFE " + life[0], x.frayed(0, 1), life[1]);
        }
        said.promise(16, "FRAYED (what = 0), BREAKS (1; NONE).");
        GorgeRopes x = trips("00b000", 1);
        x.set(1, 1);
        said.due("frayed(0, 1), as much as LIFE", x.frayed(0, 1), NONE);
        x.trip(0, 0, 0, 0, 0);
        said.due("frayed(0, 1), one more", x.frayed(0, 1), 1);
        said.due("frayed(0, 1), no trips", Check.gorge("00b000").frayed(0, 1), NONE);
        said.due("frayed(0, 0), no trips", Check.gorge("00b000").frayed(0, 0), 0);
        x.set(1, 99);
        said.due("frayed(0, 1), LIFE 99", x.frayed(0, 1), NONE);
    }

    private void bearsYet() {
        said.term("BEARS YET: how many more with a LOAD it bears without that.");
        for (int had = 0; had <= 4; had++) {
            for (int load = 0; load <= 9; load++) {
                for (int life : new int[] {1, 9, 10, 30, 40, 41, 99}) {
                    GorgeRopes x = Check.gorge("00b000");
                    for (int t = 0; t < had; t++) {
                        x.trip(0, 0, 0, 9, 0);
                    }
                    x.set(1, life);
                    int more = 0;
                    while (10 * had + (more + 1) * (load + 1) <= life) {
                        more++;
                    }
                    said.due("yet(0, " + load + "), LIFE " + life + ", frayed " + 10 * had, x.yet(0, load),
                            more);
                }
            }
        }
        said.promise(17, "BEARS YET (0, if it broke).");
        GorgeRopes x = trips("00b000", 20);
        for (int life = 18; life <= 22; life++) {
            x.set(1, life);
            said.due("yet(0, 0), frayed 20, LIFE " + life, x.yet(0, 0), Math.max(0, life - 20));
        }
        x.set(1, 1);
        for (int load = 0; load <= 9; load++) {
            said.due("yet(0, " + load + "), it broke long ago", x.yet(0, load), 0);
        }
    }

    private void heavy() {
        said.term("HEAVY: TRIPS whose LOAD is more than their ROPE BEARS.");
        for (int bears = 0; bears <= 9; bears++) {
            GorgeRopes x = Check.gorge("00b" + bears + "00");
            for (int load = 0; load <= 9; load++) {
                x.trip(0, 0, 0, load, 0);
            }
            said.due("heavy(), it bears " + bears, x.heavy(), (1023 >> (bears + 1)) << (bears + 1));
        }
        said.promise(18, "HEAVY, as bits.");
        said.due("heavy() of a new object", new GorgeRopes().heavy(), 0);
        for (int heavy = 0; heavy < 20; heavy++) {
            GorgeRopes x = Check.gorge("00b800");
            for (int t = 0; t < 20; t++) {
                x.trip(0, 0, 0, t == heavy ? 9 : 8, 0);
            }
            said.due("heavy(), trip " + heavy, x.heavy(), 1 << heavy);
        }
    }

    // ---- wind

    /** The lots of 4 that come of a seed, reckoned without ints. */
    private static int[] lots(int seed, int n) {
        BigInteger wrap = BigInteger.ONE.shiftLeft(32);
        BigInteger now = BigInteger.valueOf(seed).mod(wrap);
        int[] lots = new int[n];
        for (int i = 0; i < n; i++) {
            now = now.multiply(BigInteger.valueOf(1103515245)).add(BigInteger.valueOf(12345)).mod(wrap);
            lots[i] = now.shiftRight(16).mod(BigInteger.valueOf(4)).intValue();
        }
        return lots;
    }

    private void windOfTripsThatCount() {
        said.term("WIND by a SEED: each TRIP that counts, by numbers, begins a LOT of 4 MINUTES later: how many "
                + "pairs CLASH then.");
        for (int seed = 0; seed < 40; seed++) {
            int[] late = lots(seed, 2);
            for (int apart = 8; apart <= 16; apart++) {
                GorgeRopes x = Check.gorge("00b000");
                x.trip(1, 0, 0, 0, 0);
                x.trip(0, 0, 0, 0, 0);
                x.trip(7, 0, 0, 0, 0);
                x.trip(0, 0, apart, 0, 0);
                boolean clash = apart + late[1] - late[0] < 12;
                said.due("wind(" + seed + "), apart " + apart, x.wind(seed), clash ? 1 : 0);
            }
        }
        said.promise(19, "WIND: how many pairs CLASH.");
        said.due("wind(0) of a new object", new GorgeRopes().wind(0), 0);
        said.due("wind(0) of one trip", trips("00b000", 1).wind(0), 0);
        said.due("wind(0) of 20 that do not count", trips("", 20).wind(0), 0);
        GorgeRopes x = trips("00b000", 20);
        said.due("wind(MIN) of 20", x.wind(MIN), 190);
        said.due("wind(MAX) of 20", x.wind(MAX), 190);
        said.due("putOff(1), the wind changes nothing", x.putOff(1), 12);
        GorgeRopes last = Check.gorge("00b000");
        last.trip(0, 0, 199, 0, 0);
        last.trip(0, 0, 199, 0, 0);
        said.due("wind(1) beyond the last minute", last.wind(1), 1);
    }

    /** Trips on one rope, each at the end of the one ahead: two clash if the first is blown further. */
    private void lots() {
        said.term("LOTS of m: SEED becomes 1103515245 SEED and 12345, as ints that wrap; its upper 16 bits as a "
                + "number from 0 on, modulo m.");
        int[] seeds = {0, 1, -1, 2, -2, 7, 12345, -12345, 65535, 65536, -65536, 1 << 30, MIN, MIN + 1, MAX,
            MAX - 1, 1103515245, -1103515245, 0x7fff0000, 0x80010000};
        for (int seed : seeds) {
            int[] late = lots(seed, 16);
            GorgeRopes x = Check.gorge("00b000");
            int want = 0;
            for (int t = 0; t < 16; t++) {
                x.trip(0, 0, 12 * t, 0, 0);
                want += t > 0 && late[t] < late[t - 1] ? 1 : 0;
            }
            said.due("wind(" + seed + ")", x.wind(seed), want);
        }
    }
}
