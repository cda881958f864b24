/** Promises 26 to 28: balances, payments and knots. */
public final class FeesTest {
    private static final long LONG_BAD = Long.MIN_VALUE + 2;
    private static final int MIN = Integer.MIN_VALUE, MAX = Integer.MAX_VALUE;

    private static final Check CHECK = new Check("FeesTest");

    public static void main(String[] args) {
        promise26Balance();
        promise27Settled();
        promise28Knots();
        CHECK.end();
    }

    private static void due(String call, long got, long want) {
        CHECK.due(call, got, want);
    }

    private static void balances(String of, GorgeRopes x, int... want) {
        for (int owner = 0; owner < 5; owner++) {
            due(of + ": balance(" + owner + ")", x.balance(owner), want[owner]);
        }
    }

    private static void promise26Balance() {
        GorgeRopes x = Check.gorge("28b931;82b523;00h003");
        balances("26: no trips", x, 0, 0, 0, 0, 0);
        x.trip(0, 0, 0, 3, 0);
        balances("26: 0 pays 1 with the climb", x, -18, 18, 0, 0, 0);
        x.trip(0, 1, 0, 3, 4);
        balances("26: 4 pays 1 without it", x, -18, 30, 0, 0, -12);
        x.trip(1, 1, 0, 0, 1);
        balances("26: 1 pays 3", x, -18, 22, 0, 8, -12);
        x.trip(1, 1, 0, 9, 3);
        balances("26: 3 pays oneself", x, -18, 22, 0, 8, -12);
        x.trip(2, 1, 0, 9, 2);
        balances("26: a trip for nothing", x, -18, 22, 0, 8, -12);
        x.trip(3, 1, 0, 9, 2);
        balances("26: a trip that does not count", x, -18, 22, 0, 8, -12);
        due("35: count(7), what one pays oneself, too", x.count(7), 18 + 12 + 8 + 26);
        Check.type(x, 0, ";");
        balances("26: none counts", x, 0, 0, 0, 0, 0);
        int[] bad = {-1, 5, MIN, MAX};
        for (int b : bad) {
            due("26: balance(" + b + ")", x.balance(b), -10002);
        }
        GorgeRopes most = Check.gorge("09b990");
        for (int t = 0; t < 20; t++) {
            most.trip(0, 0, 0, 9, 4);
        }
        balances("26: twenty dearest", most, 1980, 0, 0, 0, -1980);
    }

    /** Owner from pays owner to so much (1 to 10), over ropes of price 1 that do not climb. */
    private static void pay(GorgeRopes x, int from, int to, int much) {
        x.trip(to, 0, 0, much - 1, from);
    }

    private static GorgeRopes owners() {
        return Check.gorge("00b910;00b911;00b912;00b913;00b914");
    }

    private static void promise27Settled() {
        GorgeRopes x = owners();
        due("27: settled(), nobody owes", x.settled(), 0);
        pay(x, 0, 0, 5);
        due("27: settled(), one pays oneself", x.settled(), 0);
        pay(x, 0, 1, 5);
        due("27: settled(), two people", x.settled(), 1);
        pay(x, 2, 3, 7);
        due("27: settled(), two pairs", x.settled(), 2);
        pay(x, 1, 2, 1);
        due("27: settled(), four in one group", x.settled(), 3);
        pay(x, 4, 0, 2);
        due("27: settled(), five in one group", x.settled(), 4);
        GorgeRopes chain = owners();
        for (int owner = 0; owner < 4; owner++) {
            pay(chain, owner, owner + 1, 6);
        }
        due("27: settled(), a chain is but its ends", chain.settled(), 1);
        pay(chain, 4, 0, 6);
        due("27: settled(), a ring is nothing", chain.settled(), 0);
        GorgeRopes groups = owners();
        // balances -3, -3, 6 and -4, 4: groups of three and two
        pay(groups, 0, 2, 3);
        pay(groups, 1, 2, 3);
        pay(groups, 3, 4, 4);
        due("27: settled(), three and two", groups.settled(), 3);
        pay(groups, 3, 4, 2);
        // now -3, -3, 6, -6, 6: still two groups
        due("27: settled(), who goes with whom is free", groups.settled(), 3);
        groups.undo();
        pay(groups, 0, 4, 1);
        due("27: settled(), -4, -3, 6, -4, 5", groups.settled(), 4);
        GorgeRopes swapped = owners();
        // 0 pays 1, 2 pays 3, but the like amounts are 0 with 3 and 1 with 2
        pay(swapped, 0, 1, 4);
        pay(swapped, 2, 3, 4);
        due("27: settled(), like amounts", swapped.settled(), 2);
        swapped.wipe(0);
        due("27: settled(), none counts", swapped.settled(), 0);
    }

    private static void promise28Knots() {
        String ropes = "00b000;00b100;00b900;00b400";
        for (int n = 0; n <= 9; n++) {
            GorgeRopes x = Check.gorge(ropes);
            for (int fray = 0; fray <= 99; fray++) {
                due("28: knots(0, " + n + ", " + fray + ")", x.knots(0, n, fray), n == fray ? 1 : 0);
            }
        }
        GorgeRopes x = Check.gorge(ropes);
        long[] choose = {1, 9, 36, 84, 126, 126, 84, 36, 9, 1};
        for (int more = 0; more <= 9; more++) {
            due("28: knots(1, 9, " + (9 + more) + ")", x.knots(1, 9, 9 + more), choose[more]);
        }
        due("28: knots(1, 9, 8)", x.knots(1, 9, 8), 0);
        due("28: knots(1, 9, 19)", x.knots(1, 9, 19), 0);
        for (int fray = 0; fray <= 21; fray++) {
            due("28: knots(2, 1, " + fray + ")", x.knots(2, 1, fray), fray >= 1 && fray <= 10 ? 1 : 0);
            int pairs = Math.max(0, 10 - Math.abs(fray - 11));
            due("28: knots(2, 2, " + fray + ")", x.knots(2, 2, fray), pairs);
        }
        due("28: knots(2, 9, 90)", x.knots(2, 9, 90), 1);
        due("28: knots(2, 9, 91)", x.knots(2, 9, 91), 0);
        due("28: knots(2, 9, 99)", x.knots(2, 9, 99), 0);
        due("28: knots(2, 9, 49), as many as 50", x.knots(2, 9, 49), x.knots(2, 9, 50));
        due("28: knots(3, 3, 9), three of 1 to 5", x.knots(3, 3, 9), 19);
        int[][] bad = {{-1, 0, 0}, {4, 0, 0}, {0, -1, 0}, {0, 10, 0}, {0, 0, -1}, {0, 0, 100},
            {MAX, 0, 0}, {0, MIN, 0}, {0, 0, MIN}, {0, 0, MAX}};
        for (int[] b : bad) {
            due("28: knots(" + b[0] + ", " + b[1] + ", " + b[2] + ")", x.knots(b[0], b[1], b[2]),
                    LONG_BAD);
        }
    }
}
