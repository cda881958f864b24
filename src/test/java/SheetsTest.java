/** Promises 29 to 34: sheets and what is found of them. */
public final class SheetsTest {
    private static final int MIN = Integer.MIN_VALUE, MAX = Integer.MAX_VALUE;
    private static final int NULL = -11, INDEX = -12, CAST = -13, STORE = -14, SIZE = -15;

    private static final Check CHECK = new Check("SheetsTest");

    public static void main(String[] args) {
        promise29Sheet();
        promise30Lose();
        promise31Lay();
        promise32Get();
        promise33Copy();
        promise33Refusals();
        promise34Write();
        CHECK.end();
    }

    private static void due(String call, long got, long want) {
        CHECK.due(call, got, want);
    }

    private static void finding(String of, GorgeRopes x, int want) {
        due(of + ": count(8)", x.count(8), want);
    }

    private static void items(String of, GorgeRopes x, int s, int form, int... want) {
        for (int i = 0; i < want.length; i++) {
            due(of + ": get(" + s + ", " + form + ", " + i + ")", x.get(s, form, i), want[i]);
        }
    }

    private static GorgeRopes laid(int s, int form, int... v) {
        GorgeRopes x = new GorgeRopes();
        x.sheet(s, form, v.length);
        for (int i = 0; i < v.length; i++) {
            x.lay(s, form, i, v[i]);
        }
        return x;
    }

    private static void promise29Sheet() {
        GorgeRopes x = new GorgeRopes();
        for (int form = 0; form < 3; form++) {
            for (int n : new int[] {60, 0, 1, 7}) {
                due("29: sheet(" + form + ", " + form + ", " + n + ")", x.sheet(form, form, n), n);
                due("29: lose() tells how many", x.lose(form), n);
            }
        }
        x.sheet(3, 2, 3);
        x.lay(3, 2, 0, 5);
        x.lay(3, 2, 2, 6);
        due("29: sheet(3, 2, 4) anew", x.sheet(3, 2, 4), 4);
        items("29: a new row", x, 3, 2, 0, 0, 0, 0);
        due("29: sheet(3, 0, 2) of another form", x.sheet(3, 0, 2), 2);
        items("29: of another form", x, 3, 0, 0, 0, MIN);
        finding("29: no third item", x, 2);
        int[][] bad = {{-1, 0, 0}, {4, 0, 0}, {0, -1, 0}, {0, 3, 0}, {0, 0, 61}, {0, 0, MAX},
            {MIN, 0, 0}, {0, MAX, 0}, {4, 0, -1}, {0, 3, -1}};
        for (int[] b : bad) {
            due("29: sheet(" + b[0] + ", " + b[1] + ", " + b[2] + ")", x.sheet(b[0], b[1], b[2]), -2);
        }
        finding("29: after BAD", x, 2);
        due("29: sheet(3, 1, -1)", x.sheet(3, 1, -1), SIZE);
        finding("29: after SIZE", x, 5);
        due("29: sheet(0, 1, MIN)", x.sheet(0, 1, MIN), SIZE);
        items("29: it is as it was", x, 3, 0, 0, 0);
        due("29: lose(0), it is still lost", x.lose(0), NULL);
    }

    private static void promise30Lose() {
        GorgeRopes x = laid(1, 1, 4, 5, 6);
        due("30: lose(-1)", x.lose(-1), -2);
        due("30: lose(4)", x.lose(4), -2);
        due("30: lose(MAX)", x.lose(MAX), -2);
        finding("30: after BAD", x, 0);
        due("30: lose(0), lost", x.lose(0), NULL);
        finding("30: after NULL", x, 1);
        due("30: lose(1)", x.lose(1), 3);
        due("30: lose(1) again", x.lose(1), NULL);
        due("30: get(1, 1, 0)", x.get(1, 1, 0), MIN);
        due("30: sheet(1, 1, 3)", x.sheet(1, 1, 3), 3);
        items("30: found again", x, 1, 1, 0, 0, 0);
        x.sheet(2, 0, 0);
        due("30: lose(2), of no items", x.lose(2), 0);
    }

    private static void promise31Lay() {
        int[] v = {0, 1, -1, 127, 128, -128, -129, 255, 256, 32767, 32768, -32768, -32769, 65535, 65536,
            MIN, MAX, 0x12345678};
        for (int form = 0; form < 3; form++) {
            GorgeRopes x = new GorgeRopes();
            x.sheet(form, form, v.length);
            for (int i = 0; i < v.length; i++) {
                String of = "31: lay(" + form + ", " + form + ", " + i + ", " + v[i] + ")";
                due(of, x.lay(form, form, i, v[i]), 1);
                int bits = form == 0 ? 24 : form == 1 ? 16 : 0;
                due(of + ", then get()", x.get(form, form, i), v[i] << bits >> bits);
            }
            finding("31: nothing found", x, 0);
        }
        GorgeRopes x = laid(1, 1, 7, 8, 9);
        int[][] refused = {{-1, 0, 0, -2}, {4, 0, 0, -2}, {1, -1, 0, -2}, {1, 3, 0, -2}, {0, 3, 0, -2},
            {MAX, 0, 0, -2}, {1, MIN, 0, -2}, {0, 0, 0, NULL}, {0, 1, 99, NULL}, {1, 0, 0, CAST},
            {1, 2, 0, CAST}, {1, 2, -1, CAST}, {1, 0, 3, CAST}, {1, 1, -1, INDEX}, {1, 1, 3, INDEX},
            {1, 1, 60, INDEX}, {1, 1, MIN, INDEX}, {1, 1, MAX, INDEX}};
        int latest = 0;
        for (int[] r : refused) {
            String of = "31: lay(" + r[0] + ", " + r[1] + ", " + r[2] + ", 5)";
            due(of, x.lay(r[0], r[1], r[2], 5), r[3]);
            latest = r[3] == -2 ? latest : -10 - r[3];
            finding(of, x, latest);
        }
        items("31: it is as it was", x, 1, 1, 7, 8, 9);
    }

    private static void promise32Get() {
        GorgeRopes x = laid(2, 0, 7, -8, 9);
        items("32: as laid", x, 2, 0, 7, -8, 9);
        finding("32: nothing found", x, 0);
        int[][] refused = {{-1, 0, 0, 0}, {4, 0, 0, 0}, {2, -1, 0, 0}, {2, 3, 0, 0}, {0, 0, 0, 1},
            {0, 2, 70, 1}, {2, 1, 0, 3}, {2, 2, 3, 3}, {2, 0, 3, 2}, {2, 0, -1, 2}, {2, 0, MAX, 2},
            {2, 0, MIN, 2}};
        int latest = 0;
        for (int[] r : refused) {
            String of = "32: get(" + r[0] + ", " + r[1] + ", " + r[2] + ")";
            due(of, x.get(r[0], r[1], r[2]), MIN);
            latest = r[3] == 0 ? latest : r[3];
            finding(of, x, latest);
        }
        due("32: get(0, 3, 0), BAD ahead of NULL", x.get(0, 3, 0), MIN);
        finding("32: BAD is no finding", x, 2);
        items("32: it is as it was", x, 2, 0, 7, -8, 9);
    }

    private static void promise33Copy() {
        for (int form = 0; form < 3; form++) {
            GorgeRopes x = laid(0, form, 1, 2, 3, 4, 5);
            x.sheet(1, form, 3);
            due("33: copy(0, 2, 1, 1, 2)", x.copy(0, 2, 1, 1, 2), 1);
            items("33: to another", x, 1, form, 0, 3, 4);
            items("33: from it", x, 0, form, 1, 2, 3, 4, 5);
            due("33: copy(0, 0, 0, 1, 4)", x.copy(0, 0, 0, 1, 4), 1);
            items("33: up, as they were", x, 0, form, 1, 1, 2, 3, 4);
            due("33: copy(0, 2, 0, 0, 3)", x.copy(0, 2, 0, 0, 3), 1);
            items("33: down, as they were", x, 0, form, 2, 3, 4, 3, 4);
            due("33: copy(0, 5, 1, 3, 0), none at the ends", x.copy(0, 5, 1, 3, 0), 1);
            due("33: copy(0, 0, 0, 0, 5), all on itself", x.copy(0, 0, 0, 0, 5), 1);
            items("33: as before", x, 0, form, 2, 3, 4, 3, 4);
            finding("33: nothing found", x, 0);
            x.sheet(2, form, 0);
            due("33: copy(2, 0, 2, 0, 0), of no items", x.copy(2, 0, 2, 0, 0), 1);
        }
    }

    private static void promise33Refusals() {
        GorgeRopes x = laid(0, 1, 1, 2, 3, 4, 5);
        x.sheet(1, 1, 3);
        x.sheet(2, 2, 5);
        int[][] refused = {{-1, 0, 0, 0, 1, -2}, {4, 0, 0, 0, 1, -2}, {0, 0, -1, 0, 1, -2},
            {0, 0, 4, 0, 1, -2}, {3, 0, 4, 0, 1, -2}, {3, 0, 0, 0, 1, NULL}, {0, 0, 3, 0, 1, NULL},
            {3, -1, 3, 0, 1, NULL}, {0, 0, 2, 0, 1, STORE}, {2, 0, 0, 0, 0, STORE},
            {2, -1, 0, 0, 9, STORE}, {0, -1, 1, 0, 1, INDEX}, {0, 0, 1, -1, 1, INDEX},
            {0, 0, 1, 0, -1, INDEX}, {0, 0, 1, 0, 4, INDEX}, {0, 4, 1, 0, 2, INDEX},
            {0, 0, 1, 2, 2, INDEX}, {0, 6, 1, 0, 0, INDEX}, {0, 0, 1, 4, 0, INDEX},
            {0, 0, 0, 1, 5, INDEX}, {0, MAX, 1, 0, 1, INDEX}, {0, 1, 1, 0, MAX, INDEX},
            {0, 0, 1, MAX, MAX, INDEX}, {0, MIN, 1, 0, 0, INDEX}, {0, 0, 1, MIN, MIN, INDEX},
            {0, MAX, 1, 0, 0, INDEX}};
        int latest = 0;
        for (int[] r : refused) {
            String of = "33: copy(" + r[0] + ", " + r[1] + ", " + r[2] + ", " + r[3] + ", " + r[4] + ")";
            due(of, x.copy(r[0], r[1], r[2], r[3], r[4]), r[5]);
            latest = r[5] == -2 ? latest : -10 - r[5];
            finding(of, x, latest);
        }
        items("33: it is as it was", x, 0, 1, 1, 2, 3, 4, 5);
        items("33: it is as it was", x, 1, 1, 0, 0, 0);
    }

    private static void promise34Write() {
        GorgeRopes x = Check.gorge("00b900");
        x.trip(0, 0, 195, 0, 0);
        x.trip(3, 0, 195, 0, 0);
        x.trip(0, 1, 190, 0, 0);
        for (int form = 0; form < 3; form++) {
            int first = form == 0 ? 195 - 256 : 195;
            int third = form == 0 ? 207 - 256 : 207;
            x.sheet(form, form, 5);
            x.lay(form, form, 2, 77);
            x.lay(form, form, 3, 78);
            due("34: write(" + form + "), more items", x.write(form), 3);
            items("34: more items", x, form, form, first, -1, third, 78, 0);
            x.sheet(form, form, 2);
            due("34: write(" + form + "), fewer items", x.write(form), 2);
            items("34: fewer items", x, form, form, first, -1, MIN);
            x.sheet(form, form, 0);
            due("34: write(" + form + "), no items", x.write(form), 0);
        }
        due("34: write(-1)", x.write(-1), -2);
        due("34: write(4)", x.write(4), -2);
        due("34: write(MAX)", x.write(MAX), -2);
        finding("34: after BAD", x, 2);
        due("34: write(3), lost", x.write(3), NULL);
        finding("34: after NULL", x, 1);
        GorgeRopes none = new GorgeRopes();
        none.sheet(0, 2, 4);
        due("34: write(0), no trips", none.write(0), 0);
    }
}
