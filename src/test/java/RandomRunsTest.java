import java.util.Random;

/** Long runs of calls, drawn by fixed seeds, each answer held against Model's (all promises). */
public final class RandomRunsTest {
    private static final int RUNS = 600;
    private static final int MOST_CALLS = 512;

    private final Check check;
    private final int run;
    private final Random random;
    private final GorgeRopes x = new GorgeRopes();
    private final Model model = new Model();
    private final boolean oneKind;
    private final int mostPrice;
    private int calls;

    private RandomRunsTest(Check check, int run) {
        this.check = check;
        this.run = run;
        random = new Random(run);
        oneKind = random.nextInt(3) == 0;
        mostPrice = random.nextInt(2) == 0 ? 1 : 9;
    }

    public static void main(String[] args) {
        Check check = new Check("RandomRunsTest");
        for (int run = 0; run < RUNS; run++) {
            new RandomRunsTest(check, run).go();
        }
        check.end();
    }

    private void go() {
        int most = 60 + random.nextInt(300);
        retype(0, someRopes());
        while (calls < most) {
            step();
        }
        due("digest()", x.digest(), model.digest());
        for (int what = 0; what <= 8; what++) {
            due("count(" + what + ")", x.count(what), model.count(what));
        }
    }

    private void due(String call, long got, long want) {
        calls++;
        check.due("run " + run + ", call " + calls + ": " + call, got, want);
        if (calls > MOST_CALLS) {
            throw new IllegalStateException("a run is too long");
        }
    }

    /** Mostly one of lo to hi, now and then one beside or far from them. */
    private int from(int lo, int hi) {
        switch (random.nextInt(50)) {
            case 0: return lo - 1;
            case 1: return hi + 1;
            case 2: return random.nextBoolean() ? Integer.MIN_VALUE : Integer.MAX_VALUE;
            default: return hi < lo ? lo : lo + random.nextInt(hi - lo + 1);
        }
    }

    private int aRope() {
        return from(0, model.count(0) - 1);
    }

    private int aTrip() {
        return from(0, model.count(3) - 1);
    }

    private void step() {
        switch (random.nextInt(12)) {
            case 0: textStep(); break;
            case 1: case 2: ropeStep(); break;
            case 3: case 4: case 5: tripStep(); break;
            case 6: case 7: askTrips(); break;
            case 8: millStep(); break;
            case 9: feesStep(); break;
            default: sheetStep(); break;
        }
    }

    // ---- texts and ropes

    private String someRopes() {
        StringBuilder text = new StringBuilder();
        int n = random.nextInt(9);
        for (int i = 0; i < n; i++) {
            text.append(i == 0 ? "" : ";").append(random.nextInt(10)).append(random.nextInt(10));
            text.append("bhc".charAt(oneKind ? 0 : random.nextInt(3)));
            text.append(random.nextInt(10)).append(random.nextInt(mostPrice + 1));
            text.append(random.nextInt(5));
        }
        if (text.length() > 0 && random.nextInt(6) == 0) {
            int at = random.nextInt(text.length());
            switch (random.nextInt(4)) {
                case 0: text.setLength(at); break;
                case 1: text.setCharAt(at, (char) random.nextInt(256)); break;
                case 2: text.setCharAt(at, "0123456789bhc;/:x".charAt(random.nextInt(17))); break;
                default: text.append(';'); break;
            }
        }
        return text.toString();
    }

    private String someRight() {
        StringBuilder text = new StringBuilder();
        int n = random.nextInt(11);
        int ropes = Math.max(1, model.count(0));
        for (int i = 0; i < n; i++) {
            char figure = (char) ('0' + random.nextInt(ropes));
            if (text.indexOf(String.valueOf(figure)) < 0 || random.nextInt(20) == 0) {
                text.append(figure);
            }
        }
        return text.toString();
    }

    private void retype(int text, String bytes) {
        due("wipe(" + text + ")", x.wipe(text), model.wipe(text));
        for (int i = 0; i < bytes.length(); i++) {
            type(text, bytes.charAt(i));
        }
        due("fault(" + text + ")", x.fault(text), model.fault(text));
    }

    private void type(int text, int b) {
        due("type(" + text + ", " + b + ")", x.type(text, b), model.type(text, b));
    }

    private void textStep() {
        int text = from(0, 1);
        switch (random.nextInt(8)) {
            case 0:
                if (calls < 300) {
                    retype(0, someRopes());
                }
                break;
            case 1: case 2: retype(1, someRight()); break;
            case 3: type(text, from(0, 255)); break;
            case 4: type(text, '0' + random.nextInt(10)); break;
            case 5: due("wipe(" + text + ")", x.wipe(text), model.wipe(text)); break;
            default: due("fault(" + text + ")", x.fault(text), model.fault(text)); break;
        }
    }

    private void ropeStep() {
        int a = aRope();
        int b = aRope();
        int p = from(0, 1);
        int q = from(0, 1);
        int load = from(0, 9);
        int what = from(0, 6);
        switch (random.nextInt(5)) {
            case 0:
                due("rope(" + a + ", " + what + ")", x.rope(a, what), model.rope(a, what));
                break;
            case 1:
                due("crosses(" + a + ", " + b + ", " + p + ")", x.crosses(a, b, p),
                        model.crosses(a, b, p));
                break;
            case 2:
                due("crossing(" + a + ", " + b + ", " + p + ", " + q + ")",
                        x.crossing(a, b, p, q), model.crossing(a, b, p, q));
                break;
            case 3:
                due("takes(" + a + ", " + p + ", " + load + ", " + q + ")",
                        x.takes(a, p, load, q), model.takes(a, p, load, q));
                break;
            default:
                setStep();
                break;
        }
    }

    private void setStep() {
        int what = from(0, 2);
        int v = what == 0 ? from(1, 9) : what == 1 ? from(1, 99)
                : random.nextInt(3) == 0 ? from(0, 999) : from(10, 160);
        due("set(" + what + ", " + v + ")", x.set(what, v), model.set(what, v));
    }

    // ---- trips

    private void tripStep() {
        if (random.nextInt(12) == 0) {
            due("undo()", x.undo(), model.undo());
            return;
        }
        int rope = random.nextInt(4) == 0 ? from(0, 7) : aRope();
        int side = from(0, 1);
        int begin = random.nextInt(3) == 0 ? from(0, 199) : from(0, 40);
        int load = from(0, 9);
        int owner = from(0, 4);
        due("trip(" + rope + ", " + side + ", " + begin + ", " + load + ", " + owner + ")",
                x.trip(rope, side, begin, load, owner), model.trip(rope, side, begin, load, owner));
    }

    private void askTrips() {
        int a = aTrip();
        int b = aTrip();
        int rope = aRope();
        int what = from(0, 1);
        int load = from(0, 9);
        switch (random.nextInt(8)) {
            case 0: case 1:
                due("clash(" + a + ", " + b + ", " + what + ")", x.clash(a, b, what),
                        model.clash(a, b, what));
                break;
            case 2: due("clashes()", x.clashes(), model.clashes()); break;
            case 3: due("putOff(" + a + ")", x.putOff(a), model.putOff(a)); break;
            case 4:
                due("frayed(" + rope + ", " + what + ")", x.frayed(rope, what),
                        model.frayed(rope, what));
                break;
            case 5:
                due("yet(" + rope + ", " + load + ")", x.yet(rope, load), model.yet(rope, load));
                break;
            case 6: due("heavy()", x.heavy(), model.heavy()); break;
            default:
                int seed = random.nextInt();
                due("wind(" + seed + ")", x.wind(seed), model.wind(seed));
                break;
        }
    }

    // ---- the mill

    private void millStep() {
        int rope = aRope();
        int part = from(-2, model.count(5) - 1);
        switch (random.nextInt(10)) {
            case 0: case 1: case 2: case 3:
                int weight = random.nextInt(3) == 0 ? from(0, 9) : from(0, 4);
                int kind = oneKind ? from(0, 0) : from(0, 2);
                due("part(" + weight + ", " + kind + ")", x.part(weight, kind),
                        model.part(weight, kind));
                break;
            case 4:
                if (random.nextInt(3) == 0) {
                    due("gone()", x.gone(), model.gone());
                }
                break;
            case 5: case 6: due("sent(" + part + ")", x.sent(part), model.sent(part)); break;
            case 7: due("cut(" + rope + ")", x.cut(rope), model.cut(rope)); break;
            case 8: due("needed()", x.needed(), model.needed()); break;
            default: askPegs(); break;
        }
    }

    private void askPegs() {
        int kind = oneKind ? from(0, 0) : from(0, 2);
        int bears = from(0, 9);
        int price = from(0, mostPrice);
        int what = from(0, 2);
        due("pegs(" + kind + ", " + bears + ", " + price + ", " + what + ")",
                x.pegs(kind, bears, price, what), model.pegs(kind, bears, price, what));
    }

    // ---- fees, knots

    private void feesStep() {
        int owner = from(0, 4);
        int rope = aRope();
        int n = from(0, 9);
        int fray = n > 0 && n < 10 && random.nextBoolean() ? n + random.nextInt(5 * n) : from(0, 99);
        switch (random.nextInt(4)) {
            case 0: due("balance(" + owner + ")", x.balance(owner), model.balance(owner)); break;
            case 1: due("settled()", x.settled(), model.settled()); break;
            case 2:
                due("knots(" + rope + ", " + n + ", " + fray + ")", x.knots(rope, n, fray),
                        model.knots(rope, n, fray));
                break;
            default:
                int what = from(0, 8);
                due("count(" + what + ")", x.count(what), model.count(what));
                break;
        }
    }

    // ---- sheets

    private void sheetStep() {
        int s = from(0, 3);
        int form = from(0, 2);
        int n = random.nextInt(3) == 0 ? from(0, 60) : from(0, 12);
        switch (random.nextInt(14)) {
            case 0: case 1:
                due("sheet(" + s + ", " + form + ", " + n + ")", x.sheet(s, form, n),
                        model.sheet(s, form, n));
                break;
            case 2: due("lose(" + s + ")", x.lose(s), model.lose(s)); break;
            case 3: case 4: layStep(s, form, n); break;
            case 5: case 6: case 7:
                due("get(" + s + ", " + form + ", " + n + ")", x.get(s, form, n),
                        model.get(s, form, n));
                break;
            case 8: case 9: copyStep(s); break;
            case 10: due("write(" + s + ")", x.write(s), model.write(s)); break;
            case 11: readStep(s); break;
            default:
                due("count(8)", x.count(8), model.count(8));
                break;
        }
    }

    private void layStep(int s, int form, int i) {
        int v = random.nextInt(3) == 0 ? random.nextInt() : from(-40000, 40000);
        due("lay(" + s + ", " + form + ", " + i + ", " + v + ")", x.lay(s, form, i, v),
                model.lay(s, form, i, v));
    }

    private void copyStep(int s) {
        int t = random.nextBoolean() ? s : from(0, 3);
        int i = from(0, 8);
        int j = from(0, 8);
        int n = from(0, 8);
        due("copy(" + s + ", " + i + ", " + t + ", " + j + ", " + n + ")", x.copy(s, i, t, j, n),
                model.copy(s, i, t, j, n));
        for (int k = 0; k < 3; k++) {
            int at = from(0, 16);
            int form = from(0, 2);
            due("get(" + t + ", " + form + ", " + at + ")", x.get(t, form, at),
                    model.get(t, form, at));
        }
    }

    private void readStep(int s) {
        int form = random.nextInt(3);
        int items = from(0, 20);
        due("sheet(" + s + ", " + form + ", " + items + ")", x.sheet(s, form, items),
                model.sheet(s, form, items));
        int[] most = {7, 1, 120, 9};
        for (int i = 0; i < items && i < 20; i++) {
            int v = from(0, most[i % 4]);
            due("lay(" + s + ", " + form + ", " + i + ", " + v + ")", x.lay(s, form, i, v),
                    model.lay(s, form, i, v));
        }
        int owner = from(0, 4);
        due("read(" + s + ", " + owner + ")", x.read(s, owner), model.read(s, owner));
        due("count(3)", x.count(3), model.count(3));
    }
}
