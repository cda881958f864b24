/** Boundary cases of the mill: parts, ways, cut ropes and new pegs, sentence by sentence. */
final class MillBounds {
    private static final int NONE = -1, BAD = -2, NOT = -3, FULL = -4, TIME = -2;
    private static final int MIN = Integer.MIN_VALUE, MAX = Integer.MAX_VALUE;

    private final Sentences said;

    MillBounds(Sentences said) {
        this.said = said;
    }

    void all() {
        fiveAtMost();
        whatAPartMayBe();
        gone();
        ofItsKindThatBearsIt();
        costOfCarrying();
        timeOfCarrying();
        withinLimit();
        leastRow();
        whatSentMayBeAsked();
        cut();
        cutNot();
        needed();
        pegs();
        pegsNone();
    }

    private static GorgeRopes mill(String ropes, int limit, int... weights) {
        GorgeRopes x = Check.gorge(ropes);
        x.set(2, limit);
        for (int weight : weights) {
            x.part(weight, 0);
        }
        return x;
    }

    private void sent(String of, GorgeRopes x, int cost, int time, int... row) {
        said.due(of + ": sent(-1)", x.sent(NONE), cost);
        said.due(of + ": sent(-2)", x.sent(TIME), time);
        for (int p = 0; p < row.length; p++) {
            said.due(of + ": sent(" + p + ")", x.sent(p), row[p]);
        }
    }

    // ---- part, gone

    private void fiveAtMost() {
        said.term("3 A MILL in PARTS, 5 at most");
        GorgeRopes x = new GorgeRopes();
        for (int p = 0; p < 5; p++) {
            said.due("part " + p, x.part(0, 0), p);
        }
        said.due("part 5", x.part(0, 0), FULL);
        said.due("count(5)", x.count(5), 5);
        said.due("gone()", x.gone(), 5);
        said.due("part 0 again", x.part(0, 0), 0);
        said.promise(20, "A PART more: its number.");
        GorgeRopes y = new GorgeRopes();
        said.due("the first, with no rope", y.part(9, 2), 0);
        said.due("another", y.part(0, 0), 1);
        said.due("count(5)", y.count(5), 2);
    }

    private void whatAPartMayBe() {
        said.term("WEIGHT (0 to 9), KIND (0 to 2), from the left to the right.");
        for (int weight = -1; weight <= 10; weight++) {
            for (int kind = -1; kind <= 3; kind++) {
                boolean may = weight >= 0 && weight <= 9 && kind >= 0 && kind <= 2;
                said.due("part(" + weight + ", " + kind + ")", new GorgeRopes().part(weight, kind),
                        may ? 0 : BAD);
            }
        }
        for (int far : new int[] {MIN, MAX}) {
            said.due("part(" + far + ", 0)", new GorgeRopes().part(far, 0), BAD);
            said.due("part(0, " + far + ")", new GorgeRopes().part(0, far), BAD);
        }
        sent("up, from the left to the right", mill("09b910", 999, 0), 10, 30, 0);
        sent("down, from the left to the right", mill("90b910", 999, 0), 1, 12, 0);
    }

    private void gone() {
        said.promise(21, "All PARTS are gone: how many there were.");
        for (int n = 0; n <= 5; n++) {
            GorgeRopes x = mill("00b910", 999, new int[n]);
            said.due("gone() of " + n, x.gone(), n);
            said.due("count(5)", x.count(5), 0);
            said.due("sent(-1)", x.sent(NONE), 0);
            said.due("sent(0)", x.sent(0), BAD);
            said.due("gone() again", x.gone(), 0);
            x.part(0, 0);
            sent("the new one alone", x, 1, 12, 0);
        }
    }

    // ---- ways

    private void ofItsKindThatBearsIt() {
        said.term("Each goes over a ROPE of its KIND that BEARS it.");
        for (int kind = 0; kind < 3; kind++) {
            for (int ropeKind = 0; ropeKind < 3; ropeKind++) {
                GorgeRopes x = Check.gorge("00" + "bhc".charAt(ropeKind) + "900");
                x.part(9, kind);
                said.due("sent(0), kind " + kind + " over " + ropeKind, x.sent(0),
                        kind == ropeKind ? 0 : NONE);
            }
        }
        for (int bears = 0; bears <= 9; bears++) {
            for (int weight = 0; weight <= 9; weight++) {
                GorgeRopes x = mill("00b" + bears + "00", 999, weight);
                said.due("sent(0), weight " + weight + ", it bears " + bears, x.sent(0),
                        weight <= bears ? 0 : NONE);
            }
        }
    }

    private void costOfCarrying() {
        said.term("COST: all trips that carry one.");
        // coming back empty costs nothing, though it would with a trip's climb and price
        sent("five of the dearest", mill("09b990", 999, 9, 9, 9, 9, 9), 5 * 99, 5 * 30 + 4 * 12, 0, 0, 0, 0, 0);
        sent("five back uphill", mill("90b990", 999, 9, 9, 9, 9, 9), 5 * 90, 5 * 12 + 4 * 30, 0, 0, 0, 0, 0);
        sent("five for nothing", mill("00b900", 999, 9, 9, 9, 9, 9), 0, 108, 0, 0, 0, 0, 0);
        sent("no parts", mill("00b990", 0), 0, 0);
        GorgeRopes x = mill("00b990", 999, 9);
        x.trip(0, 0, 0, 9, 0);
        sent("other trips are not of it", x, 90, 12, 0);
    }

    private void timeOfCarrying() {
        said.term("TIME: the most, over ROPES, of what carrying takes together, and coming back empty between "
                + "each two.");
        for (int n = 0; n <= 5; n++) {
            int backs = Math.max(0, n - 1);
            said.due("sent(-2), " + n + " parts up", mill("09b900", 999, new int[n]).sent(TIME),
                    n * 30 + backs * 12);
            said.due("sent(-2), " + n + " parts down", mill("90b900", 999, new int[n]).sent(TIME),
                    n * 12 + backs * 30);
        }
        sent("the most is of the first", mill("04b500;00b990", 999, 5, 6, 5), 63 + 8, 52, 0, 1, 0);
        sent("the most is of the last", mill("00b500;04b990", 999, 5, 6, 6), 2 * (63 + 4), 52, 0, 1, 1);
    }

    private void withinLimit() {
        said.term("SENT: the ROPES by which COST is least, TIME being no more than LIMIT");
        // one, two or three by rope 0, the cheap one: 12, 36, 60 minutes
        int[][] limits = {{999, 0, 60}, {60, 0, 60}, {59, 1, 36}, {36, 1, 36}, {35, NONE, NONE},
            {12, NONE, NONE}, {11, NONE, NONE}, {0, NONE, NONE}};
        for (int[] limit : limits) {
            GorgeRopes x = mill("00b900;00b910", limit[0], 0, 0, 0);
            sent("LIMIT " + limit[0], x, limit[1], limit[2]);
        }
        sent("one part, LIMIT 12", mill("00b910", 12, 0), 1, 12, 0);
        sent("one part, LIMIT 11", mill("00b910", 11, 0), NONE, NONE, NONE);
        sent("one part up, LIMIT 30", mill("09b910", 30, 0), 10, 30, 0);
        sent("one part up, LIMIT 29", mill("09b910", 29, 0), NONE, NONE, NONE);
        sent("five parts, LIMIT 198", mill("09b900", 198, 0, 0, 0, 0, 0), 45, 198, 0, 0, 0, 0, 0);
        sent("five parts, LIMIT 197", mill("09b900", 197, 0, 0, 0, 0, 0), NONE, NONE, NONE, NONE, NONE);
        sent("no parts, LIMIT 0", mill("09b900", 0), 0, 0);
        sent("no parts, no ropes", mill("", 0), 0, 0);
        sent("a part, no ropes", mill("", 999, 0), NONE, NONE, NONE);
    }

    private void leastRow() {
        said.term("of like ones the least row (PART by PART); COST, TIME then; NONE.");
        String eight = "00b900;00b900;00b900;00b900;00b900;00b900;00b900;00b900";
        sent("LIMIT 999", mill(eight, 999, 0, 0, 0, 0, 0), 0, 108, 0, 0, 0, 0, 0);
        sent("LIMIT 107", mill(eight, 107, 0, 0, 0, 0, 0), 0, 84, 0, 0, 0, 0, 1);
        sent("LIMIT 83", mill(eight, 83, 0, 0, 0, 0, 0), 0, 60, 0, 0, 0, 1, 1);
        sent("LIMIT 59", mill(eight, 59, 0, 0, 0, 0, 0), 0, 36, 0, 0, 1, 1, 2);
        sent("LIMIT 12", mill(eight, 12, 0, 0, 0, 0, 0), 0, 12, 0, 1, 2, 3, 4);
        // The row is least, not the time; and the right of way has no part in it.
        GorgeRopes x = mill("00b910;90b910", 999, 3, 3);
        Check.type(x, 1, "10");
        sent("a long way back for the least row", mill("90b910;00b910", 999, 3, 3), 8, 54, 0, 0);
        sent("by right 1, 0", x, 8, 36, 0, 0);
        sent("the last rope alone", mill(eight.substring(0, 49).replace('b', 'c') + "00b900", 999, 0, 0), 0, 36,
                7, 7);
        // Cheap first: the dearer row is not taken though it is less.
        sent("cost ahead of the row", mill("00b910;00b900", 999, 0, 9), 0, 36, 1, 1);
    }

    private void whatSentMayBeAsked() {
        said.promise(22, "SENT: the ROPE of a PART; COST (part = NONE), TIME (part = -2); NONE: there is no way.");
        for (int n = 0; n <= 5; n++) {
            GorgeRopes way = mill("00b910", 999, new int[n]);
            GorgeRopes noWay = mill("00b910", n == 0 ? 0 : 24 * n - 13, new int[n]);
            sent(n + " parts", way, n, n == 0 ? 0 : 24 * n - 12, new int[n]);
            int no = n == 0 ? 0 : NONE;
            said.due("sent(-1), no way for " + n, noWay.sent(NONE), no);
            said.due("sent(-2), no way for " + n, noWay.sent(TIME), no);
            for (int p = 0; p < n; p++) {
                said.due("sent(" + p + "), no way", noWay.sent(p), NONE);
            }
        }
        said.promise(22, "BAD.");
        for (int n = 0; n <= 5; n++) {
            GorgeRopes way = mill("00b910", 999, new int[n]);
            GorgeRopes noWay = mill("", 0, new int[n]);
            for (int wrong : new int[] {-3, n, MIN, MAX}) {
                said.due("sent(" + wrong + "), " + n + " parts", way.sent(wrong), BAD);
                said.due("sent(" + wrong + "), " + n + " parts, no way", noWay.sent(wrong), BAD);
            }
        }
    }

    // ---- cut, needed

    private void cut() {
        said.term("CUT: by how much COST is more without a ROPE (with those left, likewise)");
        GorgeRopes x = mill("00b900;00b990;00b930", 999, 9, 0);
        int[] more = {33, 0, 0};
        for (int r = 0; r < 3; r++) {
            said.due("cut(" + r + ")", x.cut(r), more[r]);
        }
        said.due("sent(-1), it was not cut for good", x.sent(NONE), 0);
        // Without rope 0 two can go by rope 1 in time, and the third by the dear one.
        GorgeRopes y = mill("00b900;00b910;00b950", 36, 0, 0, 0);
        said.due("cut(0), within LIMIT", y.cut(0), 7 - 1);
        said.due("cut(1), within LIMIT", y.cut(1), 5 - 1);
        said.due("cut(2)", y.cut(2), 0);
        said.due("cut(0), no parts", mill("00b900", 0).cut(0), 0);
        said.promise(23, "CUT.");
        GorgeRopes eight = mill("00b910;00b920;00b930;00b940;00b950;00b960;00b970;00b980", 12, 0, 0, 0, 0, 0);
        for (int r = 0; r < 8; r++) {
            said.due("cut(" + r + ") of eight", eight.cut(r), Math.max(0, 5 - r));
        }
        said.due("cut(8)", eight.cut(8), BAD);
        said.due("cut(-1)", eight.cut(-1), BAD);
    }

    private void cutNot() {
        said.term("NOT: there is no way then (or as it is).");
        GorgeRopes one = mill("00b900", 999, 0);
        said.due("cut(0), the only rope", one.cut(0), NOT);
        GorgeRopes two = mill("00b900;00b910", 35, 0, 0);
        said.due("cut(0), both are needed in time", two.cut(0), NOT);
        said.due("cut(1), both are needed in time", two.cut(1), NOT);
        two.set(2, 36);
        said.due("cut(0), LIMIT 36", two.cut(0), 2);
        said.due("cut(1), LIMIT 36", two.cut(1), 0);
        two.set(2, 11);
        said.due("cut(0), no way as it is", two.cut(0), NOT);
        said.due("cut(1), no way as it is", two.cut(1), NOT);
        said.promise(23, "BAD; NOT.");
        said.due("cut(2), BAD ahead of NOT", two.cut(2), BAD);
        said.due("cut(-1), BAD ahead of NOT", two.cut(-1), BAD);
        said.due("cut(0), no ropes", mill("", 0, 0).cut(0), BAD);
    }

    private void needed() {
        said.term("NEEDED: ROPES (bits) without which there is no way, with which there is one.");
        said.due("needed(), one rope", mill("00b900", 999, 0).needed(), 1);
        said.due("needed(), two like ropes", mill("00b900;00b900", 999, 0).needed(), 0);
        said.due("needed(), two parts, LIMIT 36", mill("00b900;00b900", 36, 0, 0).needed(), 0);
        said.due("needed(), two parts, LIMIT 35", mill("00b900;00b900", 35, 0, 0).needed(), 3);
        said.due("needed(), two parts, LIMIT 12", mill("00b900;00b900", 12, 0, 0).needed(), 3);
        said.due("needed(), no way", mill("00b900;00b900", 11, 0, 0).needed(), 0);
        said.due("needed(), three ropes, two parts", mill("00b900;00b900;00b900", 12, 0, 0).needed(), 0);
        said.due("needed(), but one bears it", mill("00b800;00b900", 999, 9).needed(), 2);
        said.promise(24, "NEEDED, as bits.");
        said.due("needed(), no parts", mill("00b900", 0).needed(), 0);
        said.due("needed(), a new object", new GorgeRopes().needed(), 0);
        for (int r = 0; r < 8; r++) {
            StringBuilder text = new StringBuilder("00h900;00h900;00h900;00h900;00h900;00h900;00h900;00h900");
            text.setCharAt(7 * r + 2, 'b');
            said.due("needed(), rope " + r, mill(text.toString(), 999, 0).needed(), 1 << r);
        }
        GorgeRopes five = mill("00b900;00h900;00b900;00h900;00b900;00h900;00b900;00b900", 12, 0, 0, 0, 0, 0);
        said.due("needed(), five of five", five.needed(), 1 + 4 + 16 + 64 + 128);
    }

    // ---- pegs

    private void pegs(String of, GorgeRopes x, int bears, int price, int peg, int cost) {
        said.due(of + ": pegs(.., 0)", x.pegs(0, bears, price, 0), peg);
        said.due(of + ": pegs(.., 1)", x.pegs(0, bears, price, 1), peg);
        said.due(of + ": pegs(.., 2)", x.pegs(0, bears, price, 2), cost);
    }

    /** From peg 0 to peg 0 a rope never climbs and crosses none, so that it is best if any is. */
    private void pegs() {
        said.term("PEGS for one more ROPE of a KIND, BEARS, PRICE: those on the left and the right with which "
                + "COST would be least, of like ones the fewest that it would CROSS, then the lower on the left, "
                + "then on the right");
        pegs("it is cheaper", mill("00b990", 999, 9), 9, 8, 0, 80);
        pegs("it is as dear", mill("00b990", 999, 9), 9, 9, 0, 90);
        pegs("it is no use", mill("00b900", 999, 9), 9, 9, 0, 0);
        pegs("it bears too little", mill("00b990", 999, 9), 8, 0, 0, 90);
        pegs("it bears as much", mill("00b990", 999, 8), 8, 0, 0, 0);
        pegs("many cross all others", mill("09b990;19b990;29b990;90b990", 999, 9, 9), 9, 1, 0, 20);
        pegs("no parts", mill("09b990", 0), 0, 9, 0, 0);
        pegs("no parts, no ropes", mill("", 0), 0, 9, 0, 0);
        pegs("with it there is a way", mill("", 12, 9), 9, 9, 0, 90);
        pegs("with it there is a way in time", mill("00b900", 12, 9, 9), 9, 9, 0, 90);
        GorgeRopes eight = mill("90b990;90b990;90b990;90b990;90b990;90b990;90b990;90b990", 999, 9);
        pegs("a ninth", eight, 9, 1, 0, 10);
        said.due("count(0), it is not driven", eight.count(0), 8);
        said.promise(25, "PEGS: on the left (what = 0), the right (1), COST then (2); NONE.");
        GorgeRopes x = mill("99b910", 999, 9, 0);
        said.due("pegs(0, 9, 0, 2)", x.pegs(0, 9, 0, 2), 0);
        said.due("pegs(0, 0, 0, 2), the light part alone", x.pegs(0, 0, 0, 2), 10);
        said.due("pegs(2, 9, 0, 2), of another kind", x.pegs(2, 9, 0, 2), 11);
        said.due("pegs(0, 9, 9, 2), the dearest", x.pegs(0, 9, 9, 2), 11);
    }

    private void pegsNone() {
        said.term("NONE, if with none there is a way.");
        pegs("LIMIT 11", mill("00b900", 11, 0), 9, 0, NONE, NONE);
        pegs("LIMIT 12", mill("00b900", 12, 0), 9, 0, 0, 0);
        pegs("it bears too little", mill("", 999, 9), 8, 0, NONE, NONE);
        pegs("three parts for two ropes", mill("00b900", 12, 0, 0, 0), 9, 0, NONE, NONE);
        pegs("three parts, LIMIT 36", mill("00b900", 36, 0, 0, 0), 9, 0, 0, 0);
        GorgeRopes x = mill("", 999, 0);
        for (int kind = 0; kind < 3; kind++) {
            for (int what = 0; what < 3; what++) {
                said.due("pegs(" + kind + ", 9, 0, " + what + ")", x.pegs(kind, 9, 0, what),
                        kind == 0 ? 0 : NONE);
            }
        }
        said.promise(25, "BAD.");
        GorgeRopes noWay = mill("", 11, 0);
        int[] last = {2, 9, 9, 2};
        for (int k = 0; k < 4; k++) {
            for (int wrong : new int[] {-1, last[k] + 1, MIN, MAX}) {
                int[] v = {0, 0, 0, 0};
                v[k] = wrong;
                said.due("pegs() with figure " + k + " " + wrong, x.pegs(v[0], v[1], v[2], v[3]), BAD);
                said.due("pegs() with figure " + k + " " + wrong + ", no way",
                        noWay.pegs(v[0], v[1], v[2], v[3]), BAD);
            }
        }
    }
}
