import java.util.ArrayList;
import java.util.List;

/** Promises 35 and 36, and that what is refused changes nothing. */
public final class CountTest {
    private static final int MIN = Integer.MIN_VALUE, MAX = Integer.MAX_VALUE;

    private static final Check CHECK = new Check("CountTest");

    public static void main(String[] args) {
        promise35Count();
        promise36DigestOfANewObject();
        promise36Digest();
        refusalsChangeNothing();
        CHECK.end();
    }

    private static void due(String call, long got, long want) {
        CHECK.due(call, got, want);
    }

    private static void counts(String of, GorgeRopes x, int... want) {
        for (int what = 0; what < want.length; what++) {
            due("35: " + of + ": count(" + what + ")", x.count(what), want[what]);
        }
    }

    private static GorgeRopes busy() {
        GorgeRopes x = Check.gorge("28b930;82b521;55h612;37c244", "31");
        x.trip(0, 0, 10, 3, 1);
        x.trip(1, 0, 14, 6, 0);
        x.trip(6, 0, 14, 6, 0);
        x.trip(3, 1, 15, 1, 4);
        x.part(5, 0);
        x.part(2, 2);
        return x;
    }

    private static void promise35Count() {
        GorgeRopes x = busy();
        // 3 * 4 + 6; 2 * 7; 4 * 2, paid by the owner of the rope; all six pairs cross
        counts("busy", x, 4, 27, 2, 4, 3, 2, 6, 18 + 14 + 8, 0);
        x.lose(2);
        counts("NULL was found", x, 4, 27, 2, 4, 3, 2, 6, 40, 1);
        x.sheet(2, 0, -5);
        counts("SIZE was found", x, 4, 27, 2, 4, 3, 2, 6, 40, 5);
        x.type(0, ';');
        counts("a fault", x, 0, 28, 2, 4, 0, 2, 0, 0, 5);
        GorgeRopes y = Check.gorge("00b000;19b000;91b000;00b000;99b000;55b000");
        due("35: count(6), three cross each other", y.count(6), 3);
        int[] bad = {-1, 9, MIN, MAX};
        for (int b : bad) {
            due("35: count(" + b + ")", x.count(b), -2);
        }
    }

    private static long folded(List<Long> told) {
        long h = 17;
        for (long v : told) {
            h = 31 * h + v;
        }
        return h;
    }

    private static void promise36DigestOfANewObject() {
        List<Long> told = new ArrayList<>();
        for (int i = 0; i < 8; i++) {
            told.add(0L);
        }
        told.add(-1L);
        told.add(-1L);
        // clashes, heavy, wind; cost, time; needed, pegs 0 to 2; five balances; settled
        for (int i = 0; i < 3 + 2 + 4 + 5 + 1; i++) {
            told.add(0L);
        }
        due("36: digest() of a new object", new GorgeRopes().digest(), folded(told));
    }

    /** What the document names, in its order, by the other calls. */
    private static long digestByCalls(GorgeRopes x) {
        List<Long> told = new ArrayList<>();
        for (int what = 0; what <= 7; what++) {
            told.add((long) x.count(what));
        }
        told.add((long) x.fault(0));
        told.add((long) x.fault(1));
        int n = x.count(0);
        for (int r = 0; r < n; r++) {
            for (int what = 0; what <= 6; what++) {
                told.add((long) x.rope(r, what));
            }
            told.add((long) x.frayed(r, 0));
            told.add((long) x.frayed(r, 1));
            told.add((long) x.cut(r));
            if (n > 1) {
                int next = r == n - 1 ? 0 : r + 1;
                told.add(x.crossing(r, next, 0, 0));
                told.add(x.crossing(r, next, 0, 1));
                told.add(x.crossing(r, next, 1, 0));
                told.add(x.crossing(r, next, 1, 1));
            }
        }
        for (int t = 0; t < x.count(3); t++) {
            told.add((long) x.putOff(t));
        }
        told.add((long) x.clashes());
        told.add((long) x.heavy());
        told.add((long) x.wind(7));
        told.add((long) x.sent(-1));
        told.add((long) x.sent(-2));
        for (int p = 0; p < x.count(5); p++) {
            told.add((long) x.sent(p));
        }
        told.add((long) x.needed());
        for (int what = 0; what <= 2; what++) {
            told.add((long) x.pegs(0, 9, 1, what));
        }
        for (int owner = 0; owner < 5; owner++) {
            told.add((long) x.balance(owner));
        }
        told.add((long) x.settled());
        return folded(told);
    }

    private static void digest(String of, GorgeRopes x) {
        due("36: digest(), " + of, x.digest(), digestByCalls(x));
    }

    private static void promise36Digest() {
        digest("busy", busy());
        GorgeRopes found = busy();
        found.lose(0);
        digest("after a finding", found);
        GorgeRopes noWay = busy();
        noWay.set(0, 9);
        noWay.set(1, 3);
        noWay.set(2, 11);
        digest("no way", noWay);
        String[] texts = {"28b930", "28b930;28b930", "09b930;90b930", "09b930;90b930x"};
        for (String text : texts) {
            GorgeRopes x = busy();
            Check.retype(x, 0, text);
            digest(text, x);
        }
        digest("all there is", allThereIs());
    }

    private static GorgeRopes allThereIs() {
        GorgeRopes x = busy();
        Check.retype(x, 0, "00b000;19b111;28b222;37b333;46b444;55b550;64b660;73b770");
        Check.retype(x, 1, "76543210");
        x.set(2, 60);
        x.part(0, 0);
        x.part(1, 0);
        x.part(1, 0);
        for (int t = 0; t < 16; t++) {
            x.trip(t % 8, t % 2, t, t % 10, t % 5);
        }
        return x;
    }

    private static void refusalsChangeNothing() {
        GorgeRopes x = busy();
        long was = x.digest();
        x.sheet(1, 1, 2);
        x.lay(1, 1, 0, 300);
        long[][] refused = {{x.type(0, 256), -2}, {x.wipe(2), -2}, {x.set(0, 10), -2},
            {x.set(1, 0), -2}, {x.set(2, 1000), -2}, {x.trip(8, 0, 0, 0, 0), -2}, {x.read(1, 5), -2},
            {x.read(0, 0), -11}, {x.part(10, 0), -2}, {x.cut(4), -2}, {x.pegs(0, 0, 0, 3), -2},
            {x.lose(0), -11}, {x.sheet(1, 1, -1), -15}, {x.sheet(1, 1, 61), -2},
            {x.lay(1, 1, 2, 1), -12}, {x.lay(1, 0, 0, 1), -13}, {x.copy(1, 0, 1, 1, 2), -12},
            {x.write(0), -11}};
        for (int i = 0; i < refused.length; i++) {
            due("refusal " + i, refused[i][0], refused[i][1]);
        }
        due("digest() after refusals", x.digest(), was);
        due("count(8) tells the latest", x.count(8), 1);
        due("get(1, 1, 0) as laid", x.get(1, 1, 0), 300);
        due("get(1, 1, 1) as laid", x.get(1, 1, 1), 0);
        due("set(0, 3) as it was", x.set(0, 3), 3);
        due("set(1, 40) as it was", x.set(1, 40), 40);
        due("set(2, 100) as it was", x.set(2, 100), 100);
        fullChangesNothing(x);
    }

    private static void fullChangesNothing(GorgeRopes x) {
        for (int i = 0; i < 60; i++) {
            x.type(0, '0');
            x.type(1, '0');
            x.trip(0, 0, 0, 0, 0);
            x.part(0, 0);
        }
        long was = x.digest();
        due("type(0, 48), full", x.type(0, 48), -4);
        due("type(1, 48), full", x.type(1, 48), -4);
        due("trip(0, 0, 0, 9, 0), full", x.trip(0, 0, 0, 9, 0), -4);
        due("part(9, 0), full", x.part(9, 0), -4);
        due("digest() after FULL", x.digest(), was);
    }
}
