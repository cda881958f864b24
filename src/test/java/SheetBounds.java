import java.math.BigInteger;
import java.util.ArrayList;
import java.util.List;

/** Boundary cases of sheets, findings, counts and the digest, sentence by sentence. */
final class SheetBounds {
    private static final int NONE = -1, BAD = -2, NULL = -11, INDEX = -12, CAST = -13, STORE = -14, SIZE = -15;
    private static final int MIN = Integer.MIN_VALUE, MAX = Integer.MAX_VALUE;
    private static final String EIGHT = "09b910;90b911;28h922;82c933;55b944;46b950;64b960;37b970";

    private final Sentences said;

    SheetBounds(Sentences said) {
        this.said = said;
    }

    void all() {
        sheetsAtFirst();
        findings();
        newRow();
        sheetRefused();
        lost();
        laid();
        layRefused();
        got();
        getRefused();
        copied();
        copyRefused();
        copyIndex();
        written();
        writtenBits();
        counts();
        countsOfTrips();
        digestOfThings();
        digestWraps();
    }

    private static GorgeRopes row(int s, int form, int... items) {
        GorgeRopes x = new GorgeRopes();
        x.sheet(s, form, items.length);
        for (int i = 0; i < items.length; i++) {
            x.lay(s, form, i, items[i]);
        }
        return x;
    }

    private void items(String of, GorgeRopes x, int s, int form, int... want) {
        for (int i = 0; i < want.length; i++) {
            said.due(of + ": get(" + s + ", " + form + ", " + i + ")", x.get(s, form, i), want[i]);
        }
    }

    private void finding(String of, GorgeRopes x, int want) {
        said.due(of + ": count(8)", x.count(8), want);
    }

    // ---- sheets and findings

    private void sheetsAtFirst() {
        said.term("SHEETS 0 .. 3 are LOST (at first) or a row of a FORM: 0 bytes, 1 shorts, 2 ints, of 0 to 60 items "
                + "(0 at first).");
        for (int s = 0; s < 4; s++) {
            for (int form = 0; form < 3; form++) {
                GorgeRopes x = new GorgeRopes();
                said.due("get(" + s + ", " + form + ", 0)", x.get(s, form, 0), MIN);
                finding("lost at first", x, 1);
                said.due("sheet(" + s + ", " + form + ", 60)", x.sheet(s, form, 60), 60);
                for (int i = 0; i < 60; i++) {
                    said.due("get(" + s + ", " + form + ", " + i + ")", x.get(s, form, i), 0);
                }
                said.due("get(" + s + ", " + form + ", 60)", x.get(s, form, 60), MIN);
                finding("no item 60", x, 2);
                said.due("sheet(" + s + ", " + form + ", 61)", x.sheet(s, form, 61), BAD);
                said.due("sheet(" + s + ", " + form + ", 0)", x.sheet(s, form, 0), 0);
                said.due("lose(" + s + "), no items, but not lost", x.lose(s), 0);
            }
        }
        GorgeRopes x = new GorgeRopes();
        said.due("sheet(-1, 0, 1)", x.sheet(-1, 0, 1), BAD);
        said.due("sheet(4, 0, 1)", x.sheet(4, 0, 1), BAD);
    }

    private void findings() {
        said.term("FINDINGS (answers -10 less the number; they change nothing but count() 8): 1 NULL: the SHEET is "
                + "LOST; 2 INDEX: there is no such item; 3 CAST: it has another FORM; 4 STORE: unlike FORMS; 5 SIZE: "
                + "below 0.");
        GorgeRopes x = row(0, 0, 7);
        x.sheet(1, 1, 1);
        said.due("lose(2)", x.lose(2), -11);
        finding("NULL", x, 1);
        said.due("lay(0, 0, 1, 5)", x.lay(0, 0, 1, 5), -12);
        finding("INDEX", x, 2);
        said.due("lay(0, 1, 0, 5)", x.lay(0, 1, 0, 5), -13);
        finding("CAST", x, 3);
        said.due("copy(0, 0, 1, 0, 1)", x.copy(0, 0, 1, 0, 1), -14);
        finding("STORE", x, 4);
        said.due("sheet(0, 0, -1)", x.sheet(0, 0, -1), -15);
        finding("SIZE", x, 5);
        said.due("get(0, 0, 0), as it was", x.get(0, 0, 0), 7);
        said.due("get(1, 1, 0), as it was", x.get(1, 1, 0), 0);
        finding("what is found well leaves it", x, 5);
        said.due("lay(4, 0, 0, 0), BAD", x.lay(4, 0, 0, 0), BAD);
        finding("BAD leaves it", x, 5);
        said.due("undo(), NOT", x.undo(), -3);
        finding("NOT leaves it", x, 5);
        said.due("lose(2)", x.lose(2), NULL);
        finding("the latest, not the greatest", x, 1);
    }

    private void newRow() {
        said.promise(29, "A SHEET is a new row of a FORM with n items: n.");
        for (int form = 0; form < 3; form++) {
            for (int n : new int[] {0, 1, 59, 60}) {
                GorgeRopes x = row(2, 2, 1, 2, 3);
                said.due("sheet(2, " + form + ", " + n + ")", x.sheet(2, form, n), n);
                said.due("get(2, .., 0), new", x.get(2, form, 0), n == 0 ? MIN : 0);
                said.due("get(2, .., n - 1)", x.get(2, form, n - 1), n == 0 ? MIN : 0);
                said.due("get(2, .., n)", x.get(2, form, n), MIN);
                finding("no item n", x, 2);
                said.due("lose(2)", x.lose(2), n);
            }
        }
        GorgeRopes x = row(2, 1, 5, 6, 7);
        x.sheet(2, 1, 1);
        x.sheet(2, 1, 3);
        items("nothing is left of the old", x, 2, 1, 0, 0, 0);
        x.lay(2, 1, 2, 9);
        x.lose(2);
        x.sheet(2, 1, 3);
        items("nor of a lost one", x, 2, 1, 0, 0, 0);
    }

    private void sheetRefused() {
        said.promise(29, "BAD: SHEET, FORM, above 60; SIZE.");
        GorgeRopes x = row(0, 1, 5, 6);
        int[][] calls = {{-1, 0, 0, BAD}, {4, 0, 0, BAD}, {0, -1, 0, BAD}, {0, 3, 0, BAD}, {0, 0, 61, BAD},
            {0, 0, MAX, BAD}, {-1, 0, -1, BAD}, {4, 0, -1, BAD}, {0, -1, -1, BAD}, {0, 3, MIN, BAD},
            {0, 0, -1, SIZE}, {0, 2, MIN, SIZE}, {3, 2, -1, SIZE}};
        for (int[] c : calls) {
            said.due("sheet(" + c[0] + ", " + c[1] + ", " + c[2] + ")", x.sheet(c[0], c[1], c[2]), c[3]);
            finding("sheet(" + c[0] + ", " + c[1] + ", " + c[2] + ")", x, c[3] == SIZE ? 5 : 0);
        }
        items("as it was", x, 0, 1, 5, 6);
        said.due("lose(0), as many as it had", x.lose(0), 2);
        said.due("lose(3), lost still", x.lose(3), NULL);
    }

    private void lost() {
        said.promise(30, "It is LOST: how many items it had.");
        for (int s = 0; s < 4; s++) {
            GorgeRopes x = new GorgeRopes();
            x.sheet(s, s % 3, 60);
            x.sheet((s + 1) % 4, 0, 1);
            said.due("lose(" + s + ")", x.lose(s), 60);
            said.due("lose(" + s + "), lost", x.lose(s), NULL);
            said.due("write(" + s + "), lost", x.write(s), NULL);
            said.due("lose() of the next one, as it was", x.lose((s + 1) % 4), 1);
            x.sheet(s, 0, 0);
            said.due("lose(" + s + "), no items", x.lose(s), 0);
        }
        said.promise(30, "BAD; NULL.");
        GorgeRopes x = new GorgeRopes();
        for (int wrong : new int[] {-1, 4, MIN, MAX}) {
            said.due("lose(" + wrong + ")", x.lose(wrong), BAD);
        }
        finding("BAD", x, 0);
        said.due("lose(3)", x.lose(3), NULL);
        finding("NULL", x, 1);
    }

    // ---- lay, get

    private void laid() {
        said.promise(31, "Item i, treated as of a FORM, becomes v (the lowest bits that it has, with its sign): 1.");
        int[][] bytes = {{0, 0}, {127, 127}, {128, -128}, {255, -1}, {256, 0}, {-128, -128}, {-129, 127}, {-256, 0},
            {-1, -1}, {MAX, -1}, {MIN, 0}, {0x1280, -128}, {0x127f, 127}};
        int[][] shorts = {{32767, 32767}, {32768, -32768}, {65535, -1}, {65536, 0}, {-32768, -32768},
            {-32769, 32767}, {128, 128}, {-129, -129}, {MAX, -1}, {MIN, 0}, {0x12348000, -32768}};
        int[][] ints = {{MAX, MAX}, {MIN, MIN}, {65536, 65536}, {-1, -1}, {0, 0}, {-32769, -32769}};
        int[][][] ofForm = {bytes, shorts, ints};
        for (int form = 0; form < 3; form++) {
            for (int[] v : ofForm[form]) {
                GorgeRopes x = new GorgeRopes();
                x.sheet(3, form, 60);
                said.due("lay(3, " + form + ", 59, " + v[0] + ")", x.lay(3, form, 59, v[0]), 1);
                said.due("get(3, " + form + ", 59)", x.get(3, form, 59), v[1]);
                said.due("get(3, " + form + ", 58), as it was", x.get(3, form, 58), 0);
                said.due("lay(3, " + form + ", 0, " + v[0] + ")", x.lay(3, form, 0, v[0]), 1);
                said.due("get(3, " + form + ", 0)", x.get(3, form, 0), v[1]);
            }
        }
    }

    private void layRefused() {
        said.promise(31, "BAD; NULL; CAST; INDEX.");
        GorgeRopes x = row(1, 1, 7, 8, 9);
        x.sheet(2, 0, 0);
        int[][] calls = {{-1, 1, 0, BAD}, {4, 1, 0, BAD}, {1, -1, 0, BAD}, {1, 3, 0, BAD}, {0, 3, 0, BAD},
            {0, -1, -1, BAD}, {0, 0, 0, NULL}, {0, 1, -1, NULL}, {3, 2, 60, NULL}, {1, 0, 0, CAST}, {1, 2, 2, CAST},
            {1, 0, -1, CAST}, {1, 2, 3, CAST}, {2, 1, 0, CAST}, {1, 1, -1, INDEX}, {1, 1, 3, INDEX},
            {1, 1, MIN, INDEX}, {1, 1, MAX, INDEX}, {2, 0, 0, INDEX}};
        int latest = 0;
        for (int[] c : calls) {
            String of = "lay(" + c[0] + ", " + c[1] + ", " + c[2] + ", 5)";
            said.due(of, x.lay(c[0], c[1], c[2], 5), c[3]);
            latest = c[3] == BAD ? latest : -10 - c[3];
            finding(of, x, latest);
        }
        items("as it was", x, 1, 1, 7, 8, 9);
    }

    private void got() {
        said.promise(32, "Item i of it.");
        GorgeRopes x = row(0, 2, MIN + 1, -2, -11, MAX);
        items("of ints", x, 0, 2, MIN + 1, -2, -11, MAX);
        finding("items below 0 are no findings", x, 0);
        GorgeRopes least = row(0, 2, MIN);
        said.due("get(0, 2, 0), the least int itself", least.get(0, 2, 0), MIN);
        finding("the least int itself is no finding", least, 0);
    }

    private void getRefused() {
        said.promise(32, "BAD: the least int; so are NULL, CAST, INDEX (count() 8 tells).");
        GorgeRopes x = row(1, 1, 7, 8, 9);
        x.sheet(2, 0, 0);
        int[][] calls = {{-1, 1, 0, 0}, {4, 1, 0, 0}, {1, -1, 0, 0}, {1, 3, 0, 0}, {0, 3, 0, 0}, {0, 0, 0, 1},
            {0, 1, -1, 1}, {3, 2, 60, 1}, {1, 0, 0, 3}, {1, 2, 2, 3}, {1, 0, -1, 3}, {1, 2, 3, 3}, {2, 1, 0, 3},
            {1, 1, -1, 2}, {1, 1, 3, 2}, {1, 1, MIN, 2}, {1, 1, MAX, 2}, {2, 0, 0, 2}, {4, 0, 0, 2}};
        int latest = 0;
        for (int[] c : calls) {
            String of = "get(" + c[0] + ", " + c[1] + ", " + c[2] + ")";
            said.due(of, x.get(c[0], c[1], c[2]), MIN);
            latest = c[3] == 0 ? latest : c[3];
            finding(of, x, latest);
        }
        items("as it was", x, 1, 1, 7, 8, 9);
    }

    // ---- copy

    private void copied() {
        said.promise(33, "n items of SHEET s, from i on, come to SHEET t (perhaps s, as they were), from j on: 1.");
        for (int form = 0; form < 3; form++) {
            GorgeRopes x = row(0, form, 1, 2, 3, 4, 5);
            said.due("copy(0, 0, 0, 1, 4)", x.copy(0, 0, 0, 1, 4), 1);
            items("upward", x, 0, form, 1, 1, 2, 3, 4);
            said.due("copy(0, 1, 0, 0, 4)", x.copy(0, 1, 0, 0, 4), 1);
            items("downward", x, 0, form, 1, 2, 3, 4, 4);
            said.due("copy(0, 0, 0, 0, 5)", x.copy(0, 0, 0, 0, 5), 1);
            items("onto itself", x, 0, form, 1, 2, 3, 4, 4);
            x.sheet(3, form, 60);
            said.due("copy(0, 0, 3, 55, 5), to the end", x.copy(0, 0, 3, 55, 5), 1);
            said.due("copy(3, 59, 0, 0, 1), one", x.copy(3, 59, 0, 0, 1), 1);
            said.due("get(3, .., 54)", x.get(3, form, 54), 0);
            said.due("get(3, .., 55)", x.get(3, form, 55), 1);
            said.due("get(3, .., 59)", x.get(3, form, 59), 4);
            items("one", x, 0, form, 4, 2, 3, 4, 4);
            said.due("copy(3, 0, 3, 0, 60), full", x.copy(3, 0, 3, 0, 60), 1);
            finding("nothing", x, 0);
        }
    }

    private void refusedCopies(GorgeRopes x, int[][] calls) {
        int latest = x.count(8);
        for (int[] c : calls) {
            String of = "copy(" + c[0] + ", " + c[1] + ", " + c[2] + ", " + c[3] + ", " + c[4] + ")";
            said.due(of, x.copy(c[0], c[1], c[2], c[3], c[4]), c[5]);
            latest = c[5] == BAD || c[5] == 1 ? latest : -10 - c[5];
            finding(of, x, latest);
        }
    }

    private void copyRefused() {
        said.promise(33, "BAD: the SHEETS; NULL: s, t; STORE;");
        GorgeRopes x = row(0, 1, 1, 2, 3);
        x.sheet(1, 2, 3);
        refusedCopies(x, new int[][] {{-1, 0, 0, 0, 1, BAD}, {4, 0, 0, 0, 1, BAD}, {0, 0, -1, 0, 1, BAD},
            {0, 0, 4, 0, 1, BAD}, {MIN, 0, MAX, 0, 1, BAD}, {3, 0, 4, 0, 1, BAD}, {4, -1, 3, -1, -1, BAD},
            {3, 0, 0, 0, 1, NULL}, {0, 0, 3, 0, 1, NULL}, {2, 0, 3, 0, 0, NULL}, {3, 0, 3, 0, 0, NULL},
            {3, -1, 1, 99, -1, NULL}, {0, 0, 1, 0, 1, STORE}, {1, 0, 0, 0, 1, STORE}, {0, 0, 1, 0, 0, STORE},
            {0, -1, 1, 0, 1, STORE}, {0, 0, 1, 9, 1, STORE}, {0, 0, 1, 0, -1, STORE}, {0, 0, 1, 0, 9, STORE}});
        items("as it was", x, 0, 1, 1, 2, 3);
        items("as it was", x, 1, 2, 0, 0, 0);
    }

    private void copyIndex() {
        said.promise(33, "INDEX: below 0, not so many");
        GorgeRopes x = row(0, 1, 1, 2, 3, 4, 5);
        x.sheet(1, 1, 3);
        refusedCopies(x, new int[][] {{0, -1, 1, 0, 1, INDEX}, {0, 0, 1, -1, 1, INDEX}, {0, 0, 1, 0, -1, INDEX},
            {0, 0, 1, 0, 4, INDEX}, {0, 0, 0, 0, 6, INDEX}, {0, 3, 1, 0, 3, INDEX}, {0, 0, 1, 1, 3, INDEX},
            {0, 5, 1, 0, 1, INDEX}, {0, 0, 1, 3, 1, INDEX}, {0, MAX, 1, 0, 1, INDEX}, {0, 0, 1, MAX, 1, INDEX},
            {0, 1, 1, 0, MAX, INDEX}, {0, 0, 1, 1, MAX, INDEX}, {0, MAX, 1, MAX, MAX, INDEX},
            {0, MIN, 1, 0, 1, INDEX}, {0, 0, 1, MIN, 1, INDEX}, {0, 0, 1, 0, MIN, INDEX},
            {0, MIN, 1, MIN, MIN, INDEX}, {0, -1, 1, 0, 2, INDEX}, {0, 3, 1, 0, -3, INDEX}});
        items("as it was", x, 0, 1, 1, 2, 3, 4, 5);
        items("as it was", x, 1, 1, 0, 0, 0);
        said.promise(33, "(with n 0, too, if i or j is above how many there are).");
        refusedCopies(x, new int[][] {{0, 6, 1, 0, 0, INDEX}, {0, 0, 1, 4, 0, INDEX}, {0, MAX, 1, 0, 0, INDEX},
            {0, 0, 1, MAX, 0, INDEX}, {0, -1, 1, 0, 0, INDEX}, {0, 0, 1, -1, 0, INDEX}, {0, 5, 1, 3, 0, 1},
            {0, 0, 1, 0, 0, 1}, {0, 5, 0, 5, 0, 1}});
        GorgeRopes none = row(2, 2);
        refusedCopies(none, new int[][] {{2, 0, 2, 0, 0, 1}, {2, 1, 2, 0, 0, INDEX}, {2, 0, 2, 1, 0, INDEX},
            {2, 0, 2, 0, 1, INDEX}});
    }

    // ---- write

    private void written() {
        said.promise(34, "from item 0 on, as many as there are items and TRIPS: how many.");
        for (int trips : new int[] {0, 1, 19, 20}) {
            for (int n : new int[] {0, 1, 19, 20, 21, 60}) {
                GorgeRopes x = Check.gorge("00b000");
                for (int t = 0; t < trips; t++) {
                    x.trip(0, 0, 1, 0, 0);
                }
                x.sheet(3, 1, n);
                int many = Math.min(n, trips);
                for (int i = 0; i < n; i++) {
                    x.lay(3, 1, i, 77);
                }
                said.due("write(3), " + n + " items, " + trips + " trips", x.write(3), many);
                for (int i = 0; i < n; i++) {
                    said.due("get(3, 1, " + i + ")", x.get(3, 1, i), i < many ? 1 + 12 * i : 77);
                }
            }
        }
        said.promise(34, "BAD; NULL.");
        GorgeRopes x = new GorgeRopes();
        for (int wrong : new int[] {-1, 4, MIN, MAX}) {
            said.due("write(" + wrong + ")", x.write(wrong), BAD);
        }
        finding("BAD", x, 0);
        said.due("write(0), lost", x.write(0), NULL);
        finding("NULL", x, 1);
    }

    private void writtenBits() {
        said.promise(34, "PUT OFF (NONE, -1, too), comes to a SHEET (of each the lowest bits that an item has, "
                + "with its sign)");
        int[] begins = {127, 128, 199};
        int[][] want = {{127, -128, -57}, {127, 128, 199}, {127, 128, 199}};
        for (int form = 0; form < 3; form++) {
            for (int k = 0; k < 3; k++) {
                GorgeRopes x = Check.gorge("00b000");
                x.trip(1, 0, 5, 0, 0);
                x.trip(0, 0, begins[k], 0, 0);
                x.sheet(0, form, 2);
                said.due("write(0)", x.write(0), 2);
                items("form " + form, x, 0, form, NONE, want[form][k]);
            }
        }
        // The twentieth of the longest begins at 769: as a byte 1.
        GorgeRopes x = Check.gorge("09b000");
        for (int t = 0; t < 20; t++) {
            x.trip(0, 0, 199, 0, 0);
        }
        for (int form = 0; form < 3; form++) {
            x.sheet(form, form, 20);
            x.write(form);
            said.due("get(" + form + ", .., 19)", x.get(form, form, 19), form == 0 ? 1 : 769);
        }
    }

    // ---- count, digest

    private void counts(String of, GorgeRopes x, int... want) {
        for (int what = 0; what < want.length; what++) {
            said.due(of + ": count(" + what + ")", x.count(what), want[what]);
        }
    }

    private static GorgeRopes full() {
        GorgeRopes x = Check.gorge(EIGHT, "76543210");
        for (int t = 0; t < 20; t++) {
            x.trip(t % 8, t % 2, 9 * t, t % 10, t % 5);
        }
        for (int p = 0; p < 5; p++) {
            x.part(2 * p, p % 3);
        }
        return x;
    }

    private void counts() {
        said.promise(35, "0 ROPES, 1, 2 bytes of texts, 3 TRIPS");
        counts("new", new GorgeRopes(), 0, 0, 0, 0, 0, 0, 0, 0, 0);
        GorgeRopes x = full();
        counts("full", x, 8, 55, 8, 20, 20, 5);
        Check.type(x, 0, "\u0000\u00ff\u0000\u00ff\u0000\u00ff");
        Check.type(x, 1, "\u0000\u00ff\u0000\u00ff");
        counts("full of bytes", x, 0, 60, 10, 20, 0, 5, 0, 0, 0);
        said.promise(35, "6 pairs of ROPES that CROSS");
        String all = "09b000;18b000;27b000;36b000;45b000;54b000;63b000;72b000";
        said.due("count(6), all of eight", Check.gorge(all).count(6), 28);
        said.due("count(6), none of eight", Check.gorge(RopeBounds.ropes(8)).count(6), 0);
        said.due("count(6), one rope", Check.gorge("09b000").count(6), 0);
        said.promise(35, "8 the number of the latest FINDING (0 before any).");
        GorgeRopes y = new GorgeRopes();
        finding("before any", y, 0);
        y.sheet(0, 0, -1);
        finding("SIZE", y, 5);
        y.lose(0);
        finding("NULL", y, 1);
        said.promise(35, "BAD.");
        for (int wrong : new int[] {-1, 9, MIN, MAX}) {
            said.due("count(" + wrong + ")", y.count(wrong), BAD);
        }
    }

    private void countsOfTrips() {
        said.promise(35, "4 those that count, 5 PARTS");
        GorgeRopes x = Check.gorge(RopeBounds.ropes(7));
        for (int t = 0; t < 20; t++) {
            x.trip(t % 2 == 0 ? 6 : 7, 0, 0, 0, 0);
            said.due("count(4), " + (t + 1) + " trips", x.count(4), t / 2 + 1);
        }
        said.promise(35, "7 what all TRIPS that count cost together");
        GorgeRopes most = Check.gorge("09b990");
        for (int t = 0; t < 20; t++) {
            said.due("count(7), " + t + " trips", most.count(7), 99 * t);
            most.trip(0, 0, 0, 9, 1);
            most.set(0, 1 + t % 9);
        }
        said.due("count(7), twenty", most.count(7), 1980);
        GorgeRopes own = Check.gorge("09b990");
        own.trip(0, 0, 0, 9, 0);
        said.due("count(7), also what one would pay oneself", own.count(7), 99);
        own.trip(1, 0, 0, 9, 0);
        said.due("count(7), not of one that does not count", own.count(7), 99);
    }

    private void digestOfThings() {
        said.promise(36, "if there are two ROPES or more crossing() with the next one (of the last one with 0) "
                + "0, 1, above and below each (as it is told; of one ROPE alone nothing)");
        for (String ropes : new String[] {"", "09b910", "09b910;90b911", "09b910;09b911", "09b910;90b911;55b944",
            EIGHT, EIGHT + ";"}) {
            GorgeRopes x = Check.gorge(ropes, "0");
            said.due("digest() of " + ropes, x.digest(), digest(Check.gorge(ropes, "0"), null));
        }
        said.promise(36, "cut() (as it is told)");
        GorgeRopes noWay = Check.gorge("09b910;90b911");
        noWay.part(9, 2);
        said.due("digest(), no way", noWay.digest(), digest(noWay, null));
        said.promise(36, "sent(NONE), sent(-2), of PARTS sent(); needed(), pegs(0, 9, 1, 0 to 2)");
        for (String ropes : new String[] {"", "00b990", "00h900;00b990", "00b990;00b900", "00b920;00b910;00b900"}) {
            for (int kind = 0; kind < 2; kind++) {
                GorgeRopes x = Check.gorge(ropes);
                x.part(9, kind);
                said.due("digest() of a part, " + ropes, x.digest(), digest(x, null));
            }
        }
        said.promise(36, "h is 17; h becomes 31 h and each of (of each thing all that is told of it, then of the "
                + "next one)");
        said.due("digest(), full", full().digest(), digest(full(), null));
        GorgeRopes x = full();
        long was = x.digest();
        x.lose(0);
        x.sheet(0, 0, 60);
        said.due("digest(), findings and sheets have no part", x.digest(), was);
        said.due("digest() again", x.digest(), was);
    }

    private void digestWraps() {
        said.promise(36, "as longs that wrap.");
        BigInteger[] exact = {BigInteger.valueOf(17)};
        GorgeRopes x = full();
        digest(x, exact);
        said.due("digest(), the lowest 64 bits", full().digest(), exact[0].longValue());
        said.holds("it is beyond a long", exact[0].bitLength() > 64);
    }

    /** By the other calls, in the document's order; without a wrap in exact, if it is told. */
    private static long digest(GorgeRopes x, BigInteger[] exact) {
        long h = 17;
        for (long v : told(x)) {
            h = 31 * h + v;
            if (exact != null) {
                exact[0] = exact[0].multiply(BigInteger.valueOf(31)).add(BigInteger.valueOf(v));
            }
        }
        return h;
    }

    private static List<Long> told(GorgeRopes x) {
        List<Long> told = new ArrayList<>();
        for (int what = 0; what <= 7; what++) {
            told.add((long) x.count(what));
        }
        told.add((long) x.fault(0));
        told.add((long) x.fault(1));
        int n = x.count(0);
        for (int r = 0; r < n; r++) {
            for (int what = 0; what <= 6; what++) {
                told.add((long) x.rope(r, what));
            }
            told.add((long) x.frayed(r, 0));
            told.add((long) x.frayed(r, 1));
            told.add((long) x.cut(r));
            for (int k = 0; k < 4 && n >= 2; k++) {
                told.add(x.crossing(r, (r + 1) % n, k / 2, k % 2));
            }
        }
        for (int t = 0; t < x.count(3); t++) {
            told.add((long) x.putOff(t));
        }
        told.add((long) x.clashes());
        told.add((long) x.heavy());
        told.add((long) x.wind(7));
        for (int p : new int[] {-1, -2, 0, 1, 2, 3, 4}) {
            if (p < x.count(5)) {
                told.add((long) x.sent(p));
            }
        }
        told.add((long) x.needed());
        for (int what = 0; what <= 2; what++) {
            told.add((long) x.pegs(0, 9, 1, what));
        }
        for (int owner = 0; owner < 5; owner++) {
            told.add((long) x.balance(owner));
        }
        told.add((long) x.settled());
        return told;
    }
}
