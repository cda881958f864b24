import java.math.BigInteger;
import java.util.Arrays;

/** Boundary cases of fees, payments and knots, sentence by sentence. */
final class FeeBounds {
    private static final int MIN = Integer.MIN_VALUE, MAX = Integer.MAX_VALUE;
    private static final long LONG_BAD = Long.MIN_VALUE + 2;

    private final Sentences said;

    FeeBounds(Sentences said) {
        this.said = said;
    }

    void all() {
        fees();
        balances();
        settled();
        settledGroups();
        knots();
        knotsRefused();
    }

    private void fees() {
        said.term("4 FEES: each TRIP that counts costs its OWNER, who pays the OWNER of the ROPE (nothing, if that "
                + "is the same).");
        for (int payer = 0; payer < 5; payer++) {
            for (int owner = 0; owner < 5; owner++) {
                GorgeRopes x = Check.gorge("09b99" + owner);
                x.trip(0, 0, 0, 9, payer);
                for (int one = 0; one < 5; one++) {
                    int want = payer == owner ? 0 : one == payer ? -99 : one == owner ? 99 : 0;
                    said.due("balance(" + one + "), " + payer + " pays " + owner, x.balance(one), want);
                }
                x.type(0, ';');
                said.due("balance(" + payer + "), it does not count", x.balance(payer), 0);
            }
        }
    }

    private void balances() {
        said.term("BALANCE of one: what one gets less what one pays.");
        GorgeRopes x = Check.gorge("00b911;00b922");
        x.trip(0, 0, 0, 9, 2);
        x.trip(1, 0, 0, 4, 1);
        said.due("balance(1), as much as it pays", x.balance(1), 0);
        said.due("balance(2), as much as it pays", x.balance(2), 0);
        x.trip(0, 0, 0, 0, 2);
        said.due("balance(1), gets more", x.balance(1), 1);
        said.due("balance(2), pays more", x.balance(2), -1);
        said.promise(26, "BALANCE of an OWNER, as any number.");
        GorgeRopes most = Check.gorge("09b994");
        for (int t = 0; t < 20; t++) {
            most.trip(0, 0, 0, 9, 0);
        }
        said.due("balance(4), the most", most.balance(4), 1980);
        said.due("balance(0), the least", most.balance(0), -1980);
        // what would be a refusal elsewhere is a balance here
        for (int much = 1; much <= 4; much++) {
            GorgeRopes y = Check.gorge("00b910");
            y.trip(0, 0, 0, much - 1, 4);
            said.due("balance(4) of -" + much, y.balance(4), -much);
        }
        said.promise(26, "BAD: -10002.");
        for (int wrong : new int[] {-1, 5, MIN, MAX}) {
            said.due("balance(" + wrong + ")", most.balance(wrong), -10002);
            said.due("balance(" + wrong + ") of a new object", new GorgeRopes().balance(wrong), -10002);
        }
    }

    /** Owners 0 to 4 with ropes of price 1; each row is who pays whom how much (1 to 10). */
    private static GorgeRopes paid(int... rows) {
        GorgeRopes x = Check.gorge("00b910;00b911;00b912;00b913;00b914");
        for (int i = 0; i + 2 < rows.length; i += 3) {
            x.trip(rows[i + 1], 0, 0, rows[i + 2] - 1, rows[i]);
        }
        return x;
    }

    private void settled() {
        said.promise(27, "SETTLED.");
        said.due("settled() of a new object", new GorgeRopes().settled(), 0);
        said.due("settled(), no trips", paid().settled(), 0);
        said.due("settled(), trips for nothing", forNothing().settled(), 0);
        said.due("settled(), each pays oneself", paid(0, 0, 9, 4, 4, 1).settled(), 0);
        said.due("settled(), there and back", paid(0, 4, 9, 4, 0, 9).settled(), 0);
        said.due("settled(), a ring", paid(0, 1, 2, 1, 2, 2, 2, 3, 2, 3, 4, 2, 4, 0, 2).settled(), 0);
        said.due("settled(), one pays one", paid(4, 0, 1).settled(), 1);
    }

    private static GorgeRopes forNothing() {
        GorgeRopes x = Check.gorge("00b900");
        x.trip(0, 0, 0, 9, 1);
        return x;
    }

    private void settledGroups() {
        said.term("SETTLED: the fewest payments by which all BALANCES are 0: PEOPLE who have one that is not 0, "
                + "less into how many groups, at most, they can be parted, each of which comes to 0.");
        said.due("settled(), all five in one group", paid(0, 4, 1, 1, 4, 2, 2, 4, 4, 3, 4, 8).settled(), 4);
        said.due("settled(), four in one group", paid(0, 4, 1, 1, 4, 2, 2, 4, 4).settled(), 3);
        said.due("settled(), three in one group", paid(0, 4, 1, 1, 4, 2).settled(), 2);
        said.due("settled(), two pairs", paid(0, 1, 5, 2, 3, 5).settled(), 2);
        said.due("settled(), two unlike pairs", paid(0, 1, 5, 2, 3, 6).settled(), 2);
        said.due("settled(), a pair and three", paid(0, 1, 5, 2, 3, 6, 4, 3, 1).settled(), 3);
        // -5, 3, 2 and -3, 3: parted as 0, 1, 2 and 3, 4, or with 4 for 1
        said.due("settled(), two partings do", paid(0, 1, 3, 0, 2, 2, 3, 4, 3).settled(), 3);
        // -1, -2, 3, -4, 4: the pair is of the last two
        said.due("settled(), three and a pair", paid(0, 2, 1, 1, 2, 2, 3, 4, 4).settled(), 3);
        // who has 0 is no group of its own
        said.due("settled(), one in between has 0", paid(0, 1, 5, 1, 2, 5).settled(), 1);
        said.due("settled(), three have 0", paid(0, 1, 5, 1, 2, 5, 2, 3, 5, 3, 4, 5).settled(), 1);
    }

    /** All rows of n loads of 0 to bears, by powers of a sum. */
    private static BigInteger[] ways(int bears, int n) {
        BigInteger[] ways = new BigInteger[200];
        Arrays.fill(ways, BigInteger.ZERO);
        ways[0] = BigInteger.ONE;
        for (int k = 0; k < n; k++) {
            BigInteger[] next = new BigInteger[200];
            Arrays.fill(next, BigInteger.ZERO);
            for (int sum = 0; sum < 100; sum++) {
                for (int load = 0; load <= bears; load++) {
                    next[sum + load + 1] = next[sum + load + 1].add(ways[sum]);
                }
            }
            ways = next;
        }
        return ways;
    }

    private void knots() {
        said.term("KNOTS: in how many ways n TRIPS (0 to 9; by their order) with LOADS of 0 to what a ROPE BEARS "
                + "come to so much FRAY (0 to 99).");
        for (int bears = 0; bears <= 9; bears++) {
            for (int n = 0; n <= 9; n++) {
                GorgeRopes x = Check.gorge("00b" + bears + "00");
                BigInteger[] ways = ways(bears, n);
                for (int fray = 0; fray <= 99; fray++) {
                    said.due("knots(0, " + n + ", " + fray + "), it bears " + bears, x.knots(0, n, fray),
                            ways[fray].longValueExact());
                }
            }
        }
        said.promise(28, "KNOTS.");
        GorgeRopes x = Check.gorge("00b000;00b900");
        said.due("knots(1, 0, 0), no trips, no fray", x.knots(1, 0, 0), 1);
        said.due("knots(1, 0, 1)", x.knots(1, 0, 1), 0);
        said.due("knots(1, 0, 99)", x.knots(1, 0, 99), 0);
        said.due("knots(1, 1, 0)", x.knots(1, 1, 0), 0);
        said.due("knots(0, 9, 9), the least", x.knots(0, 9, 9), 1);
        said.due("knots(0, 9, 10)", x.knots(0, 9, 10), 0);
        said.due("knots(1, 9, 8)", x.knots(1, 9, 8), 0);
        said.due("knots(1, 9, 9)", x.knots(1, 9, 9), 1);
        said.due("knots(1, 9, 10), each of nine can be the one", x.knots(1, 9, 10), 9);
        said.due("knots(1, 9, 90)", x.knots(1, 9, 90), 1);
        said.due("knots(1, 9, 91)", x.knots(1, 9, 91), 0);
        said.due("knots(1, 9, 99)", x.knots(1, 9, 99), 0);
        x.trip(1, 0, 0, 9, 0);
        said.due("knots(1, 1, 1), the trips that there are have no part", x.knots(1, 1, 1), 1);
    }

    private void knotsRefused() {
        said.promise(28, "(As the least long and x more.)");
        GorgeRopes x = Check.gorge("00b000;00b900");
        said.due("knots(2, 0, 0)", x.knots(2, 0, 0), -9223372036854775806L);
        said.promise(28, "BAD.");
        int[] last = {1, 9, 99};
        for (int k = 0; k < 3; k++) {
            for (int wrong : new int[] {-1, last[k] + 1, MIN, MAX}) {
                int[] v = {0, 0, 0};
                v[k] = wrong;
                said.due("knots() with figure " + k + " " + wrong, x.knots(v[0], v[1], v[2]), LONG_BAD);
            }
        }
        said.due("knots(0, 0, 0), no ropes", new GorgeRopes().knots(0, 0, 0), LONG_BAD);
    }
}
