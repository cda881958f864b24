import java.util.ArrayList;
import java.util.Arrays;
import java.util.List;
import java.util.regex.Matcher;
import java.util.regex.Pattern;

/**
 * The document read a second time, as slowly and plainly as can be: everything is reckoned anew
 * from the texts at each call, by trying all there is. RandomRunsTest holds the class against it.
 */
final class Model {
    private static final int NONE = -1, BAD = -2, NOT = -3, FULL = -4;
    private static final String PART = "[0-9][0-9][bhc][0-9][0-9][0-4]";
    private static final Pattern WELL = Pattern.compile("(" + PART + "(;" + PART + "){0,7})?");
    private static final Pattern GOES_ON = Pattern.compile("(" + PART + "(;" + PART + "){0,7};?)?");

    /** A rope: pegs on the left, on the right, kind, bears, price, owner. */
    private static final int L = 0, R = 1, KIND = 2, BEARS = 3, PRICE = 4, OWNER = 5;

    private final StringBuilder[] texts = {new StringBuilder(), new StringBuilder()};
    private final int[] settings = {3, 40, 100};
    private final List<int[]> trips = new ArrayList<>();
    private final List<int[]> parts = new ArrayList<>();
    private final Object[] sheets = new Object[4];
    private int latest;

    private static boolean in(int v, int from, int to) {
        return from <= v && v <= to;
    }

    // ---- ropes

    int type(int text, int b) {
        if (!in(text, 0, 1) || !in(b, 0, 255)) {
            return BAD;
        }
        if (texts[text].length() == (text == 0 ? 60 : 10)) {
            return FULL;
        }
        return texts[text].append((char) b).length();
    }

    int wipe(int text) {
        if (!in(text, 0, 1)) {
            return BAD;
        }
        int had = texts[text].length();
        texts[text].setLength(0);
        return had;
    }

    int fault(int text) {
        if (!in(text, 0, 1)) {
            return BAD;
        }
        return text == 0 ? ropesFault() : rightFault();
    }

    private int ropesFault() {
        String all = texts[0].toString();
        for (int n = 1; n <= all.length(); n++) {
            Matcher m = GOES_ON.matcher(all.substring(0, n));
            if (!m.matches() && !m.hitEnd()) {
                return n - 1;
            }
        }
        return WELL.matcher(all).matches() ? NONE : all.length();
    }

    private int rightFault() {
        String all = texts[1].toString();
        for (int i = 0; i < all.length(); i++) {
            char c = all.charAt(i);
            if (c < '0' || c >= '0' + ropes().size() || all.indexOf(c) < i) {
                return i;
            }
        }
        return NONE;
    }

    private List<int[]> ropes() {
        List<int[]> ropes = new ArrayList<>();
        if (ropesFault() == NONE && texts[0].length() > 0) {
            for (String part : texts[0].toString().split(";")) {
                int[] rope = new int[6];
                for (int i = 0; i < 6; i++) {
                    rope[i] = i == KIND ? "bhc".indexOf(part.charAt(i)) : part.charAt(i) - '0';
                }
                ropes.add(rope);
            }
        }
        return ropes;
    }

    private List<Integer> byRight() {
        List<Integer> order = new ArrayList<>();
        if (rightFault() == NONE) {
            for (char c : texts[1].toString().toCharArray()) {
                order.add(c - '0');
            }
        }
        for (int r = 0; r < ropes().size(); r++) {
            if (!order.contains(r)) {
                order.add(r);
            }
        }
        return order;
    }

    int rope(int rope, int what) {
        if (!in(rope, 0, ropes().size() - 1) || !in(what, 0, 6)) {
            return BAD;
        }
        return what == 6 ? byRight().indexOf(rope) : ropes().get(rope)[what];
    }

    private static boolean cross(int[] a, int[] b) {
        return a[L] > b[L] && a[R] < b[R] || a[L] < b[L] && a[R] > b[R];
    }

    private boolean twoRopes(int a, int b) {
        int last = ropes().size() - 1;
        return in(a, 0, last) && in(b, 0, last) && a != b;
    }

    int crosses(int a, int b, int what) {
        if (!twoRopes(a, b) || !in(what, 0, 1)) {
            return BAD;
        }
        int n = 0;
        for (int other = 0; other < ropes().size(); other++) {
            boolean asked = what == 1 ? other != a : other == b;
            if (asked && cross(ropes().get(a), ropes().get(other))) {
                n++;
            }
        }
        return n;
    }

    /** The place at which two cross, from the left: above and below, not in lowest terms. */
    private static int[] place(int[] a, int[] b) {
        int above = b[L] - a[L];
        int below = (a[R] - a[L]) - (b[R] - b[L]);
        return below < 0 ? new int[] {-above, -below} : new int[] {above, below};
    }

    long crossing(int a, int b, int which, int what) {
        if (!twoRopes(a, b) || !in(which, 0, 1) || !in(what, 0, 1)) {
            return Long.MIN_VALUE + 2;
        }
        int[] ra = ropes().get(a);
        int[] rb = ropes().get(b);
        if (!cross(ra, rb)) {
            return Long.MIN_VALUE + 3;
        }
        int[] f = place(ra, rb);
        if (which == 1) {
            f[0] = rb[L] * f[1] + f[0] * (rb[R] - rb[L]);
        }
        int x = f[0];
        int y = f[1];
        while (y != 0) {
            int rest = x % y;
            x = y;
            y = rest;
        }
        return f[what] / x;
    }

    private static int rise(int[] rope, int side) {
        int rise = side == 0 ? rope[R] - rope[L] : rope[L] - rope[R];
        return rise > 0 ? rise : 0;
    }

    private static int minutes(int[] rope, int side) {
        return 12 + 2 * rise(rope, side);
    }

    private static int fare(int[] rope, int side, int load) {
        return rope[PRICE] * (load + 1) + rise(rope, side);
    }

    int takes(int rope, int side, int load, int what) {
        if (!in(rope, 0, ropes().size() - 1) || !in(side, 0, 1) || !in(load, 0, 9)
                || !in(what, 0, 1)) {
            return BAD;
        }
        int[] over = ropes().get(rope);
        return what == 0 ? minutes(over, side) : fare(over, side, load);
    }

    int set(int what, int v) {
        boolean well = what == 0 && in(v, 1, 9) || what == 1 && in(v, 1, 99)
                || what == 2 && in(v, 0, 999);
        if (!well) {
            return BAD;
        }
        int was = settings[what];
        settings[what] = v;
        return was;
    }

    // ---- trips: rope, side, begin, load, owner

    private static boolean mayBe(int rope, int side, int begin, int load) {
        return in(rope, 0, 7) && in(side, 0, 1) && in(begin, 0, 199) && in(load, 0, 9);
    }

    int trip(int rope, int side, int begin, int load, int owner) {
        if (!mayBe(rope, side, begin, load) || !in(owner, 0, 4)) {
            return BAD;
        }
        if (trips.size() == 20) {
            return FULL;
        }
        trips.add(new int[] {rope, side, begin, load, owner});
        return trips.size() - 1;
    }

    int read(int s, int owner) {
        if (!in(s, 0, 3) || !in(owner, 0, 4)) {
            return BAD;
        }
        if (sheets[s] == null) {
            return finding(1);
        }
        int came = 0;
        while (4 * came + 4 <= length(s)) {
            int[] t = new int[5];
            for (int i = 0; i < 4; i++) {
                t[i] = item(s, 4 * came + i);
            }
            t[4] = owner;
            if (trips.size() == 20 || !mayBe(t[0], t[1], t[2], t[3])) {
                break;
            }
            trips.add(t);
            came++;
        }
        return came;
    }

    int undo() {
        if (trips.isEmpty()) {
            return NOT;
        }
        trips.remove(trips.size() - 1);
        return trips.size();
    }

    private boolean counts(int trip) {
        return trips.get(trip)[0] < ropes().size();
    }

    private static boolean clash(List<int[]> ropes, int[] a, int atA, int[] b, int atB, int gap) {
        int[] ra = ropes.get(a[0]);
        int[] rb = ropes.get(b[0]);
        if (a[0] == b[0]) {
            return atA < atB + minutes(rb, b[1]) && atB < atA + minutes(ra, a[1]);
        }
        if (!cross(ra, rb)) {
            return false;
        }
        double f = place(ra, rb)[0] / (double) place(ra, rb)[1];
        double whenA = atA + minutes(ra, a[1]) * (a[1] == 0 ? f : 1 - f);
        double whenB = atB + minutes(rb, b[1]) * (b[1] == 0 ? f : 1 - f);
        // The moments are eighteenths or coarser apart: what is this near to GAP is GAP.
        return Math.abs(whenA - whenB) < gap - 1e-6;
    }

    int clash(int a, int b, int what) {
        int last = trips.size() - 1;
        if (!in(a, 0, last) || !in(b, 0, last) || a == b || !in(what, 0, 1)) {
            return BAD;
        }
        int[] ta = trips.get(a);
        int[] tb = trips.get(b);
        boolean clash = counts(a) && counts(b)
                && clash(ropes(), ta, ta[2], tb, tb[2], settings[0]);
        if (what == 0 || !clash) {
            return what == 0 ? (clash ? 1 : 0) : NONE;
        }
        if (ta[0] == tb[0]) {
            return Math.max(a, b);
        }
        return byRight().indexOf(ta[0]) > byRight().indexOf(tb[0]) ? a : b;
    }

    private int pairs(int[] at) {
        List<int[]> ropes = ropes();
        int n = 0;
        for (int a = 0; a < at.length; a++) {
            for (int b = 0; b < a; b++) {
                if (counts(a) && counts(b)
                        && clash(ropes, trips.get(a), at[a], trips.get(b), at[b], settings[0])) {
                    n++;
                }
            }
        }
        return n;
    }

    int clashes() {
        return pairs(trips.stream().mapToInt(t -> t[2]).toArray());
    }

    private int[] putOffAll() {
        List<int[]> ropes = ropes();
        int[] at = new int[trips.size()];
        Arrays.fill(at, NONE);
        List<Integer> ahead = new ArrayList<>();
        for (int rope : byRight()) {
            for (int t = 0; t < at.length; t++) {
                if (trips.get(t)[0] == rope) {
                    at[t] = firstFree(ropes, t, at, ahead);
                    ahead.add(t);
                }
            }
        }
        return at;
    }

    private int firstFree(List<int[]> ropes, int t, int[] at, List<Integer> ahead) {
        int minute = trips.get(t)[2];
        while (true) {
            boolean free = true;
            for (int other : ahead) {
                free &= !clash(ropes, trips.get(t), minute, trips.get(other), at[other],
                        settings[0]);
            }
            if (free) {
                return minute;
            }
            minute++;
        }
    }

    int putOff(int trip) {
        return in(trip, 0, trips.size() - 1) ? putOffAll()[trip] : BAD;
    }

    int frayed(int rope, int what) {
        if (!in(rope, 0, ropes().size() - 1) || !in(what, 0, 1)) {
            return BAD;
        }
        int sum = 0;
        int breaks = NONE;
        for (int t = 0; t < trips.size(); t++) {
            if (trips.get(t)[0] == rope) {
                sum += trips.get(t)[3] + 1;
                if (breaks == NONE && sum > settings[1]) {
                    breaks = t;
                }
            }
        }
        return what == 0 ? sum : breaks;
    }

    int yet(int rope, int load) {
        if (!in(rope, 0, ropes().size() - 1) || !in(load, 0, 9)) {
            return BAD;
        }
        int n = 0;
        while (frayed(rope, 0) + (n + 1) * (load + 1) <= settings[1]) {
            n++;
        }
        return n;
    }

    int heavy() {
        int bits = 0;
        for (int t = 0; t < trips.size(); t++) {
            if (counts(t) && trips.get(t)[3] > ropes().get(trips.get(t)[0])[BEARS]) {
                bits += 1 << t;
            }
        }
        return bits;
    }

    int wind(int seed) {
        int[] at = new int[trips.size()];
        int now = seed;
        for (int t = 0; t < at.length; t++) {
            if (counts(t)) {
                now = (int) (1103515245L * now + 12345L);
                long upper = (now & 0xFFFFFFFFL) / 65536L;
                at[t] = trips.get(t)[2] + (int) (upper % 4);
            }
        }
        return pairs(at);
    }

    // ---- the mill: weight, kind

    int part(int weight, int kind) {
        if (!in(weight, 0, 9) || !in(kind, 0, 2)) {
            return BAD;
        }
        if (parts.size() == 5) {
            return FULL;
        }
        parts.add(new int[] {weight, kind});
        return parts.size() - 1;
    }

    int gone() {
        int n = parts.size();
        parts.clear();
        return n;
    }

    private int timeOf(List<int[]> ropes, int[] row) {
        int most = 0;
        for (int r = 0; r < ropes.size(); r++) {
            int sum = 0;
            for (int by : row) {
                if (by == r) {
                    sum += (sum > 0 ? minutes(ropes.get(r), 1) : 0) + minutes(ropes.get(r), 0);
                }
            }
            most = Math.max(most, sum);
        }
        return most;
    }

    /** All rows of ropes in their order, a rope that is null being none: the first of least cost. */
    private int[] best(List<int[]> ropes) {
        int[] found = {Integer.MAX_VALUE};
        int[] row = new int[parts.size()];
        int[][] bestRow = {null};
        tryAll(ropes, row, 0, 0, found, bestRow);
        if (bestRow[0] == null) {
            return null;
        }
        int[] told = Arrays.copyOf(bestRow[0], row.length + 2);
        told[row.length] = found[0];
        told[row.length + 1] = timeOf(ropes, bestRow[0]);
        return told;
    }

    private void tryAll(List<int[]> ropes, int[] row, int n, int cost, int[] found, int[][] best) {
        if (n == row.length) {
            if (cost < found[0] && timeOf(ropes, row) <= settings[2]) {
                found[0] = cost;
                best[0] = row.clone();
            }
            return;
        }
        int[] part = parts.get(n);
        for (int r = 0; r < ropes.size(); r++) {
            int[] rope = ropes.get(r);
            if (rope[KIND] == part[1] && rope[BEARS] >= part[0]) {
                row[n] = r;
                tryAll(ropes, row, n + 1, cost + fare(rope, 0, part[0]), found, best);
            }
        }
    }

    private int bestCost(List<int[]> ropes) {
        int[] told = best(ropes);
        return told == null ? NONE : told[parts.size()];
    }

    int sent(int part) {
        if (!in(part, -2, parts.size() - 1)) {
            return BAD;
        }
        int[] told = best(ropes());
        if (told == null) {
            return NONE;
        }
        return told[part >= 0 ? part : parts.size() - 1 - part];
    }

    private List<int[]> without(int rope) {
        List<int[]> left = ropes();
        left.remove(rope);
        return left;
    }

    int cut(int rope) {
        if (!in(rope, 0, ropes().size() - 1)) {
            return BAD;
        }
        int is = bestCost(ropes());
        int then = bestCost(without(rope));
        return is == NONE || then == NONE ? NOT : then - is;
    }

    int needed() {
        int bits = 0;
        for (int r = 0; r < ropes().size(); r++) {
            if (bestCost(ropes()) != NONE && bestCost(without(r)) == NONE) {
                bits += 1 << r;
            }
        }
        return bits;
    }

    int pegs(int kind, int bears, int price, int what) {
        if (!in(kind, 0, 2) || !in(bears, 0, 9) || !in(price, 0, 9) || !in(what, 0, 2)) {
            return BAD;
        }
        List<int[]> all = ropes();
        int[] best = null;
        for (int left = 0; left < 10; left++) {
            for (int right = 0; right < 10; right++) {
                int[] more = {left, right, kind, bears, price, 0};
                int met = 0;
                for (int[] rope : all) {
                    met += cross(rope, more) ? 1 : 0;
                }
                List<int[]> then = new ArrayList<>(all);
                then.add(more);
                int cost = bestCost(then);
                int[] now = {left, right, cost, met};
                if (cost != NONE && (best == null || Arrays.compare(now, 2, 4, best, 2, 4) < 0)) {
                    best = now;
                }
            }
        }
        return best == null ? NONE : best[what];
    }

    // ---- fees, knots

    int balance(int owner) {
        if (!in(owner, 0, 4)) {
            return -10002;
        }
        int sum = 0;
        for (int t = 0; t < trips.size(); t++) {
            if (counts(t)) {
                int[] trip = trips.get(t);
                int[] rope = ropes().get(trip[0]);
                int cost = fare(rope, trip[1], trip[3]);
                if (trip[4] != rope[OWNER]) {
                    sum += rope[OWNER] == owner ? cost : 0;
                    sum -= trip[4] == owner ? cost : 0;
                }
            }
        }
        return sum;
    }

    int settled() {
        List<Integer> money = new ArrayList<>();
        for (int owner = 0; owner < 5; owner++) {
            if (balance(owner) != 0) {
                money.add(balance(owner));
            }
        }
        return money.size() - mostGroups(money, 0, new ArrayList<>());
    }

    /** Puts one person after the other into each group or a new one; -1: no parting does. */
    private static int mostGroups(List<Integer> money, int next, List<Integer> sums) {
        if (next == money.size()) {
            return sums.stream().allMatch(s -> s == 0) ? sums.size() : -1;
        }
        int most = -1;
        for (int g = 0; g <= sums.size(); g++) {
            List<Integer> more = new ArrayList<>(sums);
            if (g == sums.size()) {
                more.add(0);
            }
            more.set(g, more.get(g) + money.get(next));
            most = Math.max(most, mostGroups(money, next + 1, more));
        }
        return most;
    }

    long knots(int rope, int n, int fray) {
        if (!in(rope, 0, ropes().size() - 1) || !in(n, 0, 9) || !in(fray, 0, 99)) {
            return Long.MIN_VALUE + 2;
        }
        return knotWays(ropes().get(rope)[BEARS], n, fray, new Long[10][100]);
    }

    private static long knotWays(int bears, int n, int fray, Long[][] known) {
        if (n == 0 || fray < 0) {
            return n == 0 && fray == 0 ? 1 : 0;
        }
        if (known[n][fray] == null) {
            long ways = 0;
            for (int load = 0; load <= bears; load++) {
                ways += knotWays(bears, n - 1, fray - load - 1, known);
            }
            known[n][fray] = ways;
        }
        return known[n][fray];
    }

    // ---- sheets: Java's own rows

    private int finding(int number) {
        latest = number;
        return -10 - number;
    }

    private int form(int s) {
        return sheets[s] instanceof byte[] ? 0 : sheets[s] instanceof short[] ? 1 : 2;
    }

    private int length(int s) {
        return java.lang.reflect.Array.getLength(sheets[s]);
    }

    private int item(int s, int i) {
        return java.lang.reflect.Array.getInt(sheets[s], i);
    }

    private void put(int s, int i, int v) {
        if (sheets[s] instanceof byte[] bytes) {
            bytes[i] = (byte) v;
        } else if (sheets[s] instanceof short[] shorts) {
            shorts[i] = (short) v;
        } else if (sheets[s] instanceof int[] ints) {
            ints[i] = v;
        }
    }

    int sheet(int s, int form, int n) {
        if (!in(s, 0, 3) || !in(form, 0, 2) || n > 60) {
            return BAD;
        }
        if (n < 0) {
            return finding(5);
        }
        sheets[s] = form == 0 ? new byte[n] : form == 1 ? new short[n] : new int[n];
        return n;
    }

    int lose(int s) {
        if (!in(s, 0, 3)) {
            return BAD;
        }
        if (sheets[s] == null) {
            return finding(1);
        }
        int had = length(s);
        sheets[s] = null;
        return had;
    }

    private int refusal(int s, int form, int i) {
        if (!in(s, 0, 3) || !in(form, 0, 2)) {
            return BAD;
        }
        if (sheets[s] == null) {
            return finding(1);
        }
        if (form(s) != form) {
            return finding(3);
        }
        return in(i, 0, length(s) - 1) ? 0 : finding(2);
    }

    int lay(int s, int form, int i, int v) {
        int refusal = refusal(s, form, i);
        if (refusal != 0) {
            return refusal;
        }
        put(s, i, v);
        return 1;
    }

    int get(int s, int form, int i) {
        return refusal(s, form, i) != 0 ? Integer.MIN_VALUE : item(s, i);
    }

    int copy(int s, int i, int t, int j, int n) {
        if (!in(s, 0, 3) || !in(t, 0, 3)) {
            return BAD;
        }
        if (sheets[s] == null || sheets[t] == null) {
            return finding(1);
        }
        if (form(s) != form(t)) {
            return finding(4);
        }
        if (i < 0 || j < 0 || n < 0 || (long) i + n > length(s) || (long) j + n > length(t)) {
            return finding(2);
        }
        List<Integer> were = new ArrayList<>();
        for (int k = 0; k < n; k++) {
            were.add(item(s, i + k));
        }
        for (int k = 0; k < n; k++) {
            put(t, j + k, were.get(k));
        }
        return 1;
    }

    int write(int s) {
        if (!in(s, 0, 3)) {
            return BAD;
        }
        if (sheets[s] == null) {
            return finding(1);
        }
        int[] at = putOffAll();
        int n = 0;
        while (n < at.length && n < length(s)) {
            put(s, n, at[n]);
            n++;
        }
        return n;
    }

    int count(int what) {
        int n = 0;
        switch (what) {
            case 0: return ropes().size();
            case 1: return texts[0].length();
            case 2: return texts[1].length();
            case 3: return trips.size();
            case 4:
                for (int t = 0; t < trips.size(); t++) {
                    n += counts(t) ? 1 : 0;
                }
                return n;
            case 5: return parts.size();
            case 6:
                for (int a = 0; a < ropes().size(); a++) {
                    for (int b = 0; b < a; b++) {
                        n += cross(ropes().get(a), ropes().get(b)) ? 1 : 0;
                    }
                }
                return n;
            case 7:
                for (int t = 0; t < trips.size(); t++) {
                    int[] trip = trips.get(t);
                    n += counts(t) ? fare(ropes().get(trip[0]), trip[1], trip[3]) : 0;
                }
                return n;
            case 8: return latest;
            default: return BAD;
        }
    }

    long digest() {
        List<Long> told = new ArrayList<>();
        for (int what = 0; what <= 7; what++) {
            told.add((long) count(what));
        }
        told.add((long) fault(0));
        told.add((long) fault(1));
        int n = ropes().size();
        for (int r = 0; r < n; r++) {
            for (int what = 0; what <= 6; what++) {
                told.add((long) rope(r, what));
            }
            told.add((long) frayed(r, 0));
            told.add((long) frayed(r, 1));
            told.add((long) cut(r));
            for (int k = 0; k < 4 && n >= 2; k++) {
                told.add(crossing(r, (r + 1) % n, k / 2, k % 2));
            }
        }
        for (int at : putOffAll()) {
            told.add((long) at);
        }
        told.add((long) clashes());
        told.add((long) heavy());
        told.add((long) wind(7));
        told.add((long) sent(-1));
        told.add((long) sent(-2));
        for (int p = 0; p < parts.size(); p++) {
            told.add((long) sent(p));
        }
        told.add((long) needed());
        for (int what = 0; what <= 2; what++) {
            told.add((long) pegs(0, 9, 1, what));
        }
        for (int owner = 0; owner < 5; owner++) {
            told.add((long) balance(owner));
        }
        told.add((long) settled());
        long h = 17;
        for (long v : told) {
            h = 31 * h + v;
        }
        return h;
    }
}
