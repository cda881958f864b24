/** Promises 20 to 25: a mill sent over in parts. */
public final class MillTest {
    private static final int MIN = Integer.MIN_VALUE, MAX = Integer.MAX_VALUE;

    private static final Check CHECK = new Check("MillTest");

    public static void main(String[] args) {
        promise20Part();
        promise21Gone();
        promise22Sent();
        promise22LeastRow();
        promise22KindAndBears();
        promise23Cut();
        promise24Needed();
        promise25Pegs();
        CHECK.end();
    }

    private static void due(String call, long got, long want) {
        CHECK.due(call, got, want);
    }

    private static void parts(GorgeRopes x, int kind, int... weights) {
        for (int weight : weights) {
            x.part(weight, kind);
        }
    }

    private static void promise20Part() {
        GorgeRopes x = new GorgeRopes();
        int[][] bad = {{-1, 0}, {10, 0}, {0, -1}, {0, 3}, {MIN, 0}, {0, MAX}};
        for (int full = 0; full < 2; full++) {
            for (int[] b : bad) {
                due("20: part(" + b[0] + ", " + b[1] + ")", x.part(b[0], b[1]), -2);
            }
            due("20: count(5)", x.count(5), 5 * full);
            for (int i = 0; i < 5 && full == 0; i++) {
                due("20: part " + i, x.part(i == 0 ? 0 : 9, i % 3), i);
            }
        }
        due("20: one too many", x.part(0, 0), -4);
        due("20: count(5), full", x.count(5), 5);
    }

    private static void promise21Gone() {
        GorgeRopes x = Check.gorge("00b910");
        due("21: gone(), none", x.gone(), 0);
        parts(x, 0, 1, 2, 3);
        due("21: gone()", x.gone(), 3);
        due("21: count(5)", x.count(5), 0);
        due("21: sent(-1)", x.sent(-1), 0);
        due("21: part() begins from 0 again", x.part(9, 0), 0);
        due("21: sent(-1), the new one alone", x.sent(-1), 10);
    }

    private static void sent(String of, GorgeRopes x, int cost, int time, int... row) {
        due("22: " + of + ": sent(-1)", x.sent(-1), cost);
        due("22: " + of + ": sent(-2)", x.sent(-2), time);
        for (int p = 0; p < row.length; p++) {
            due("22: " + of + ": sent(" + p + ")", x.sent(p), row[p]);
        }
    }

    private static void promise22Sent() {
        // Rope 0 costs twice a load, rope 1 once and 4 for the climb, and takes 20 there, 12 back.
        GorgeRopes x = Check.gorge("00b920;04b910");
        sent("no parts", x, 0, 0);
        parts(x, 0, 3, 4, 2);
        sent("LIMIT 100", x, 23, 36, 0, 1, 0);
        x.set(2, 36);
        sent("LIMIT 36", x, 23, 36, 0, 1, 0);
        x.set(2, 35);
        sent("LIMIT 35", x, -1, -1, -1, -1, -1);
        x.set(2, 100);
        x.gone();
        parts(x, 0, 9, 9, 9);
        // 14 each by rope 1, 20 by rope 0; three by rope 1 take 84, two 52
        sent("heavy, LIMIT 100", x, 42, 84, 1, 1, 1);
        x.set(2, 83);
        sent("heavy, LIMIT 83", x, 48, 52, 0, 1, 1);
        x.set(2, 51);
        sent("heavy, LIMIT 51", x, 54, 36, 0, 0, 1);
        x.set(2, 0);
        sent("heavy, LIMIT 0", x, -1, -1, -1, -1, -1);
        x.gone();
        sent("no parts, LIMIT 0", x, 0, 0);
        int[] bad = {0, -3, 5, MIN, MAX};
        for (int b : bad) {
            due("22: sent(" + b + ")", x.sent(b), -2);
        }
        x.part(0, 0);
        due("22: sent(0), no way", x.sent(0), -1);
        due("22: sent(1), BAD ahead of no way", x.sent(1), -2);
        x.wipe(0);
        x.set(2, 100);
        sent("no ropes", x, -1, -1, -1);
        x.gone();
        sent("no ropes, no parts", x, 0, 0);
    }

    private static void promise22LeastRow() {
        GorgeRopes x = Check.gorge("00b910;00b910;00b910", "210");
        parts(x, 0, 1, 1, 1);
        sent("like ropes", x, 6, 60, 0, 0, 0);
        x.set(2, 59);
        sent("like ropes, two at most", x, 6, 36, 0, 0, 1);
        x.set(2, 12);
        sent("like ropes, one each", x, 6, 12, 0, 1, 2);
        // The way back from a rope that goes down takes longer: it does not climb when laden.
        GorgeRopes y = Check.gorge("90b910;00b910");
        parts(y, 0, 0, 5);
        sent("down, two by one rope", y, 7, 54, 0, 0);
        y.set(2, 53);
        sent("down, LIMIT 53", y, 7, 12, 0, 1);
        // A cheap rope that bears one part only in time: the heavier part goes by it.
        GorgeRopes z = Check.gorge("00b950;00b900");
        parts(z, 0, 3, 8, 3);
        z.set(2, 36);
        sent("the dearer part by the cheap rope", z, 20, 36, 0, 1, 1);
        z.set(2, 35);
        sent("one each for three", z, -1, -1, -1, -1, -1);
        GorgeRopes five = Check.gorge("00b900;00b910;00b920;00b930;00b940;00b950;00b960;00b970");
        parts(five, 0, 0, 1, 2, 3, 4);
        five.set(2, 12);
        sent("the heaviest by the cheapest", five, 4 + 2 * 3 + 3 * 2 + 4, 12, 4, 3, 2, 1, 0);
    }

    private static void promise22KindAndBears() {
        GorgeRopes x = Check.gorge("00b400;00h900;00c910;00b990");
        x.part(4, 0);
        x.part(5, 0);
        x.part(0, 2);
        x.part(9, 1);
        sent("by kind and weight", x, 54 + 1, 12, 0, 3, 2, 1);
        x.gone();
        x.part(9, 0);
        sent("what the last rope bears", x, 90, 12, 3);
        Check.retype(x, 0, "00b800;00h900;00c900");
        sent("too heavy for its kind", x, -1, -1, -1);
    }

    private static void promise23Cut() {
        GorgeRopes x = Check.gorge("00b920;04b910;00c900");
        due("23: cut(0), no parts", x.cut(0), 0);
        parts(x, 0, 3, 4, 2);
        // 23 with both; 24 with either alone, in 84 and 60 minutes
        int[][] limits = {{100, 1, 1, 0, 0}, {84, 1, 1, 0, 0}, {83, -3, 1, 0, 1}, {60, -3, 1, 0, 1},
            {59, -3, -3, 0, 3}, {36, -3, -3, 0, 3}, {35, -3, -3, -3, 0}};
        for (int[] limit : limits) {
            x.set(2, limit[0]);
            for (int r = 0; r < 3; r++) {
                due("23: cut(" + r + "), LIMIT " + limit[0], x.cut(r), limit[r + 1]);
            }
            due("24: needed(), LIMIT " + limit[0], x.needed(), limit[4]);
        }
        int[] bad = {-1, 3, 7, MIN, MAX};
        for (int b : bad) {
            due("23: cut(" + b + ")", x.cut(b), -2);
        }
        GorgeRopes y = Check.gorge("00b900;00b990;00b930");
        parts(y, 0, 9, 0);
        due("23: cut(0), much dearer", y.cut(0), 33);
        due("23: cut(1)", y.cut(1), 0);
        due("23: sent(-1) is as it was", y.sent(-1), 0);
        due("23: count(0) is as it was", y.count(0), 3);
    }

    private static void promise24Needed() {
        GorgeRopes x = Check.gorge("00b100;00b900;00h900;00c900;00c900");
        due("24: needed(), no parts", x.needed(), 0);
        x.part(2, 0);
        due("24: needed(), but one bears it", x.needed(), 2);
        x.part(9, 1);
        due("24: needed(), but one of its kind", x.needed(), 6);
        x.part(9, 2);
        due("24: needed(), two of its kind", x.needed(), 6);
        x.part(9, 2);
        x.set(2, 35);
        due("24: needed(), two of its kind in time", x.needed(), 2 + 4 + 8 + 16);
        x.set(2, 11);
        due("24: needed(), no way at all", x.needed(), 0);
        GorgeRopes y = Check.gorge("00b900;00b900;00b900;00b900;00b900;00b900;00b900;00h900");
        y.part(0, 1);
        due("24: needed(), the eighth", y.needed(), 128);
    }

    private static void pegs(GorgeRopes x, int kind, int bears, int price, int left, int cost) {
        String of = "25: pegs(" + kind + ", " + bears + ", " + price + ", ";
        due(of + "0)", x.pegs(kind, bears, price, 0), left);
        due(of + "1)", x.pegs(kind, bears, price, 1), left);
        due(of + "2)", x.pegs(kind, bears, price, 2), cost);
    }

    /** From peg 0 to peg 0 a rope is never dearer or slower, and crosses none: it is always best. */
    private static void promise25Pegs() {
        GorgeRopes x = Check.gorge("00b920;04b910");
        pegs(x, 2, 0, 9, 0, 0);
        parts(x, 0, 3, 4, 2);
        pegs(x, 0, 9, 0, 0, 0);
        pegs(x, 0, 9, 1, 0, 4 + 5 + 3);
        pegs(x, 0, 3, 1, 0, 4 + 9 + 3);
        pegs(x, 0, 3, 0, 0, 9);
        pegs(x, 0, 1, 0, 0, 23);
        pegs(x, 0, 9, 9, 0, 23);
        pegs(x, 1, 9, 0, 0, 23);
        x.set(2, 35);
        // no way without it; with it, one part by each rope
        pegs(x, 0, 9, 0, 0, 8 + 6);
        pegs(x, 0, 1, 0, -1, -1);
        pegs(x, 1, 9, 0, -1, -1);
        x.set(2, 19);
        pegs(x, 0, 9, 0, -1, -1);
        x.set(2, 100);
        GorgeRopes none = new GorgeRopes();
        none.part(4, 1);
        pegs(none, 1, 4, 9, 0, 45);
        pegs(none, 1, 3, 9, -1, -1);
        pegs(none, 0, 9, 0, -1, -1);
        none.set(2, 11);
        pegs(none, 1, 4, 9, -1, -1);
        GorgeRopes eight = Check.gorge("90b990;90b990;90b990;90b990;90b990;90b990;90b990;90b990");
        eight.part(1, 0);
        pegs(eight, 0, 9, 1, 0, 2);
        due("25: count(0) is as it was", eight.count(0), 8);
        int[][] bad = {{-1, 0, 0, 0}, {3, 0, 0, 0}, {0, -1, 0, 0}, {0, 10, 0, 0}, {0, 0, -1, 0},
            {0, 0, 10, 0}, {0, 0, 0, -1}, {0, 0, 0, 3}, {MAX, 0, 0, 0}, {0, MIN, 0, 0},
            {0, 0, MAX, 0}, {0, 0, 0, MIN}};
        for (int[] b : bad) {
            due("25: pegs(" + b[0] + ", " + b[1] + ", " + b[2] + ", " + b[3] + ")",
                    x.pegs(b[0], b[1], b[2], b[3]), -2);
        }
    }
}
