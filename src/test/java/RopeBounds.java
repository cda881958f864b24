/** Boundary cases of texts, ropes, crossings, fares and settings, sentence by sentence. */
final class RopeBounds {
    private static final int NONE = -1, BAD = -2, FULL = -4;
    private static final long LONG_BAD = Long.MIN_VALUE + 2, LONG_NOT = Long.MIN_VALUE + 3;
    private static final String EIGHT = "00b000;11b000;22b000;33b000;44b000;55b000;66b000;77b000";
    private static final String PART = "00b000";

    private final Sentences said;

    RopeBounds(Sentences said) {
        this.said = said;
    }

    void all() {
        calls512();
        newObject();
        ropesUpTo60Bytes();
        eachByteAtEachPlace();
        bearsPriceOwner();
        eightAtMost();
        faultOfRopes();
        withAFaultNone();
        rightUpTo10Bytes();
        rightOfRopesThatThereAre();
        rightNoneTwice();
        rightByNumbers();
        bytes0To255();
        wiped();
        faultOfAText();
        toldOfARope();
        allPegsCross();
        crossesWithOthers();
        takesAndCosts();
        frays();
        settings();
    }

    /** A text of so many ropes, none of which crosses another. */
    static String ropes(int n) {
        return n == 0 ? "" : EIGHT.substring(0, 7 * n - 1);
    }

    private static String shown(String text) {
        StringBuilder out = new StringBuilder();
        for (char c : text.toCharArray()) {
            out.append(c >= ' ' && c < 127 ? String.valueOf(c) : "<" + (int) c + ">");
        }
        return out.toString();
    }

    private void fault0(String text, int want) {
        said.due("fault(0) of " + shown(text), Check.gorge(text).fault(0), want);
    }

    // ---- an object

    private void calls512() {
        said.of("What it is", "An object is used for at most 512 calls after it has been made");
        GorgeRopes x = Check.gorge(EIGHT, "76543210");
        int calls = EIGHT.length() + 8;
        for (; calls + 3 <= 508; calls += 3) {
            said.due("trip()", x.trip(7, 1, 199, 9, 4), 0);
            said.due("undo()", x.undo(), 0);
            said.due("undo()", x.undo(), -3);
        }
        for (; calls < 511; calls++) {
            said.due("call " + (calls + 1), x.lose(calls % 4), -11);
        }
        said.due("call 512", x.digest(), Check.gorge(EIGHT, "76543210").digest());
    }

    private void newObject() {
        said.promise(1, "No ROPES, no TRIPS, no PARTS; all SHEETS are LOST.");
        GorgeRopes x = new GorgeRopes();
        for (int what = 0; what <= 8; what++) {
            said.due("count(" + what + ")", x.count(what), 0);
        }
        said.due("rope(0, 0)", x.rope(0, 0), BAD);
        said.due("putOff(0)", x.putOff(0), BAD);
        said.due("undo()", x.undo(), -3);
        said.due("sent(0)", x.sent(0), BAD);
        said.due("gone()", x.gone(), 0);
        for (int s = 0; s < 4; s++) {
            said.due("lose(" + s + ")", x.lose(s), -11);
        }
    }

    // ---- the text of the ropes

    private void ropesUpTo60Bytes() {
        said.of("What it is", "ROPES (text 0) are a text of up to 60 bytes");
        GorgeRopes x = new GorgeRopes();
        for (int n = 1; n <= 60; n++) {
            said.due("type(0, 48), byte " + n, x.type(0, 48), n);
        }
        said.due("type(0, 48), byte 61", x.type(0, 48), FULL);
        said.due("count(1)", x.count(1), 60);
        said.due("count(2), the other text", x.count(2), 0);
        said.due("type(1, 48), the other text has room", x.type(1, 48), 1);
        said.due("wipe(0)", x.wipe(0), 60);
        said.due("type(0, 48), there is room again", x.type(0, 48), 1);
    }

    private static boolean mayStand(int place, int b) {
        switch (place % 7) {
            case 2: return b == 'b' || b == 'h' || b == 'c';
            case 5: return b >= '0' && b <= '4';
            case 6: return b == ';';
            default: return b >= '0' && b <= '9';
        }
    }

    private void eachByteAtEachPlace() {
        said.of("What it is", "parts with ; between them: two figures (PEGS, 0 to 9: height on the "
                + "left, on the right), a letter (KIND: b 0, h 1, c 2), three figures:");
        for (int place = 0; place < 55; place++) {
            GorgeRopes ahead = Check.gorge(EIGHT.substring(0, place));
            int endedAhead = place == 0 || place % 7 == 6 ? NONE : place;
            said.due("fault(0) ahead of place " + place, ahead.fault(0), endedAhead);
            for (int b = 0; b < 256; b++) {
                String text = EIGHT.substring(0, place) + (char) b;
                int well = place % 7 == 5 ? NONE : place + 1;
                fault0(text, mayStand(place, b) ? well : place);
            }
        }
        for (int figure = 0; figure <= 9; figure++) {
            said.due("rope(0, 0)", Check.gorge(figure + "0b000").rope(0, 0), figure);
            said.due("rope(0, 1)", Check.gorge("0" + figure + "b000").rope(0, 1), figure);
        }
        for (int kind = 0; kind < 3; kind++) {
            said.due("rope(0, 2)", Check.gorge("00" + "bhc".charAt(kind) + "000").rope(0, 2), kind);
        }
    }

    private void bearsPriceOwner() {
        said.term("BEARS (0 to 9), PRICE (0 to 9), OWNER (0 to 4).");
        for (int figure = 0; figure <= 9; figure++) {
            said.due("rope(0, 3) of " + figure, Check.gorge("00b" + figure + "00").rope(0, 3), figure);
            said.due("rope(0, 4) of " + figure, Check.gorge("00b0" + figure + "0").rope(0, 4), figure);
            GorgeRopes x = Check.gorge("00b00" + figure);
            said.due("fault(0), owner " + figure, x.fault(0), figure <= 4 ? NONE : 5);
            said.due("rope(0, 5) of " + figure, x.rope(0, 5), figure <= 4 ? figure : BAD);
        }
        for (String byFigure : new String[] {"/", ":"}) {
            fault0("00b" + byFigure + "00", 3);
            fault0("00b0" + byFigure + "0", 4);
            fault0("00b00" + byFigure, 5);
        }
    }

    private void eightAtMost() {
        said.term("8 at most, numbered from 0 on.");
        for (int n = 0; n <= 8; n++) {
            GorgeRopes x = Check.gorge(ropes(n));
            said.due("fault(0) of " + n, x.fault(0), NONE);
            said.due("count(0) of " + n, x.count(0), n);
            said.due("rope(-1, 0) of " + n, x.rope(-1, 0), BAD);
            for (int r = 0; r < n; r++) {
                said.due("rope(" + r + ", 0) of " + n, x.rope(r, 0), r);
            }
            said.due("rope(" + n + ", 0) of " + n, x.rope(n, 0), BAD);
        }
        GorgeRopes nine = Check.gorge(EIGHT + ";8");
        said.due("count(0), a ninth", nine.count(0), 0);
    }

    private void faultOfRopes() {
        said.term("The FAULT is the place of the first byte with which it cannot go on");
        fault0("00x0x0", 2);
        fault0("00b000;0x", 8);
        fault0(PART + PART, 6);
        fault0("\u0000", 0);
        fault0("\u00ff", 0);
        said.term("(an empty text is well;");
        fault0("", NONE);
        GorgeRopes x = Check.gorge("x");
        x.wipe(0);
        said.due("fault(0), wiped", x.fault(0), NONE);
        said.term("of one that is not ended, as behind a ;, its end)");
        for (int n = 1; n <= 55; n++) {
            fault0(EIGHT.substring(0, n), n % 7 == 6 ? NONE : n);
        }
        said.term("of a figure that may not be");
        fault0("00b005", 5);
        fault0("00b009", 5);
        fault0("00b005;00b006", 5);
        fault0("00b004;00b006", 12);
        fault0(EIGHT.substring(0, 54) + "5", 54);
        fault0(EIGHT.substring(0, 54) + "4", NONE);
        faultOfANinth();
    }

    private void faultOfANinth() {
        said.term("or of the first byte of a ninth.");
        fault0(EIGHT, NONE);
        fault0(EIGHT + ";", 56);
        for (int b = 0; b < 256; b++) {
            fault0(EIGHT + ";" + (char) b, 56);
        }
        fault0(EIGHT + ";88b0", 56);
        fault0(EIGHT + "xxxxx", 55);
        fault0("x" + EIGHT.substring(1) + ";88b0", 0);
    }

    private void withAFaultNone() {
        said.term("With a FAULT there are none.");
        String[] faulty = {"x", "0", "28b930;", "28b930;82b521;", "28b930;82b525", "28b930;82x521",
            EIGHT + ";", EIGHT + ";8"};
        for (String text : faulty) {
            GorgeRopes x = Check.gorge(text);
            x.trip(0, 0, 0, 9, 1);
            x.trip(0, 0, 0, 9, 1);
            String of = " of " + text;
            said.due("count(0)" + of, x.count(0), 0);
            said.due("count(4)" + of, x.count(4), 0);
            said.due("count(6)" + of, x.count(6), 0);
            said.due("count(7)" + of, x.count(7), 0);
            said.due("rope(0, 0)" + of, x.rope(0, 0), BAD);
            said.due("crosses(0, 1, 0)" + of, x.crosses(0, 1, 0), BAD);
            said.due("crossing(0, 1, 0, 0)" + of, x.crossing(0, 1, 0, 0), LONG_BAD);
            said.due("takes(0, 0, 0, 0)" + of, x.takes(0, 0, 0, 0), BAD);
            said.due("frayed(0, 0)" + of, x.frayed(0, 0), BAD);
            said.due("yet(0, 0)" + of, x.yet(0, 0), BAD);
            said.due("cut(0)" + of, x.cut(0), BAD);
            said.due("knots(0, 0, 0)" + of, x.knots(0, 0, 0), LONG_BAD);
            said.due("clashes()" + of, x.clashes(), 0);
            said.due("heavy()" + of, x.heavy(), 0);
        }
    }

    // ---- the text of the right of way

    private void rightUpTo10Bytes() {
        said.term("RIGHT (text 1, up to 10 bytes)");
        GorgeRopes x = Check.gorge(EIGHT);
        for (int n = 1; n <= 10; n++) {
            said.due("type(1, ..), byte " + n, x.type(1, '0' + n - 1), n);
        }
        said.due("type(1, 48), byte 11", x.type(1, 48), FULL);
        said.due("count(2)", x.count(2), 10);
        said.due("fault(1)", x.fault(1), 8);
        said.due("count(1), the other text", x.count(1), 55);
        said.due("wipe(1)", x.wipe(1), 10);
        said.due("type(1, 48), there is room again", x.type(1, 48), 1);
    }

    private void rightOfRopesThatThereAre() {
        said.term("is a row of figures of ROPES that there are");
        for (int n = 0; n <= 8; n++) {
            GorgeRopes x = Check.gorge(ropes(n));
            for (int b = '0' - 1; b <= '9' + 1; b++) {
                x.type(1, b);
                int want = b >= '0' && b < '0' + n ? NONE : 0;
                said.due("fault(1) of byte " + b + ", " + n + " ropes", x.fault(1), want);
                x.wipe(1);
            }
        }
        for (int b = 0; b < 256; b++) {
            GorgeRopes x = Check.gorge(EIGHT, "0" + (char) b);
            said.due("fault(1) of byte " + b, x.fault(1), b >= '1' && b <= '7' ? NONE : 1);
        }
        said.due("fault(1), ropes with a fault", Check.gorge("00b000;", "0").fault(1), 0);
        said.due("fault(1), empty, ropes with a fault", Check.gorge("00b000;").fault(1), NONE);
    }

    private void rightNoneTwice() {
        said.term("none twice");
        for (int figure = 0; figure < 8; figure++) {
            for (int apart = 1; apart < 8; apart++) {
                StringBuilder right = new StringBuilder();
                for (int i = 0; i < apart; i++) {
                    right.append((figure + i) % 8);
                }
                said.due("fault(1) of " + right, Check.gorge(EIGHT, right.toString()).fault(1), NONE);
                right.append(figure);
                said.due("fault(1) of " + right, Check.gorge(EIGHT, right.toString()).fault(1), apart);
            }
        }
        said.term("The FAULT is the place of the first byte that may not be.");
        said.due("fault(1) of 0x0", Check.gorge(EIGHT, "0x0").fault(1), 1);
        said.due("fault(1) of 00x", Check.gorge(EIGHT, "00x").fault(1), 1);
        said.due("fault(1) of 76543210", Check.gorge(EIGHT, "76543210").fault(1), NONE);
        said.due("fault(1) of 765432109", Check.gorge(EIGHT, "765432109").fault(1), 8);
        said.due("fault(1) of 7654321x10", Check.gorge(EIGHT, "7654321x10").fault(1), 7);
    }

    private void rightByNumbers() {
        said.term("the first has most; those that are not told come behind, by numbers.");
        String order = "5270";
        int[][] ranks = {{0, 1, 2, 3, 4, 5, 6, 7}, {1, 2, 3, 4, 5, 0, 6, 7}, {2, 3, 1, 4, 5, 0, 6, 7},
            {3, 4, 1, 5, 6, 0, 7, 2}, {3, 4, 1, 5, 6, 0, 7, 2}};
        for (int told = 0; told <= 4; told++) {
            ranked(Check.gorge(EIGHT, order.substring(0, told)), order.substring(0, told), ranks[told]);
        }
        ranked(Check.gorge(EIGHT, "76543210"), "76543210", 7, 6, 5, 4, 3, 2, 1, 0);
        ranked(Check.gorge(EIGHT, "7654321"), "7654321", 7, 6, 5, 4, 3, 2, 1, 0);
        ranked(Check.gorge("00b000", "0"), "0", 0);
        said.term("With a FAULT it is by numbers.");
        for (String right : new String[] {"77", "78", "7654321077", "765432100", "7x", "x7", "7\u0000"}) {
            ranked(Check.gorge(EIGHT, right), right, 0, 1, 2, 3, 4, 5, 6, 7);
        }
        GorgeRopes x = Check.gorge("00b000;00b000", "102");
        ranked(x, "102 of two ropes", 0, 1);
        Check.type(x, 0, ";00b000");
        ranked(x, "102 of three ropes", 1, 0, 2);
    }

    private void ranked(GorgeRopes x, String right, int... ranks) {
        for (int r = 0; r < ranks.length; r++) {
            said.due("rope(" + r + ", 6) by " + shown(right), x.rope(r, 6), ranks[r]);
        }
    }

    // ---- type, wipe, fault, rope

    private void bytes0To255() {
        said.promise(2, "A byte (0 to 255) comes behind a text: ROPES 0, RIGHT 1: how many.");
        for (int text = 0; text < 2; text++) {
            GorgeRopes x = new GorgeRopes();
            said.due("type(" + text + ", 0)", x.type(text, 0), 1);
            said.due("type(" + text + ", 255)", x.type(text, 255), 2);
            said.due("type(" + text + ", -1)", x.type(text, -1), BAD);
            said.due("type(" + text + ", 256)", x.type(text, 256), BAD);
            said.due("count() of it", x.count(1 + text), 2);
            said.due("count() of the other", x.count(2 - text), 0);
        }
        GorgeRopes x = new GorgeRopes();
        said.due("type(-1, 48)", x.type(-1, 48), BAD);
        said.due("type(2, 48)", x.type(2, 48), BAD);
        // what is no byte is not cut to one
        Check.type(x, 0, "00b00");
        said.due("type(0, 48 + 256)", x.type(0, 48 + 256), BAD);
        said.due("fault(0), not ended still", x.fault(0), 5);
    }

    private void wiped() {
        said.promise(3, "A text is empty: how many bytes it had.");
        GorgeRopes x = Check.gorge(EIGHT + ";8888", "7654321077");
        said.due("wipe(0), full", x.wipe(0), 60);
        said.due("wipe(0), empty", x.wipe(0), 0);
        said.due("count(2), the other is as it was", x.count(2), 10);
        said.due("wipe(1), full", x.wipe(1), 10);
        said.due("wipe(1), empty", x.wipe(1), 0);
        said.due("fault(0)", x.fault(0), NONE);
        said.due("fault(1)", x.fault(1), NONE);
        Check.type(x, 0, "1");
        said.due("wipe(0), one byte", x.wipe(0), 1);
        Check.type(x, 0, "98c764");
        said.due("rope(0, 0), nothing is left of the old", x.rope(0, 0), 9);
        said.due("count(0)", x.count(0), 1);
        oldRopesAreGone();
    }

    private void oldRopesAreGone() {
        GorgeRopes x = Check.gorge("09b000;18b000;27b000;36b000;45b000;54b000;63b000;72b000", "76543210");
        for (int n = 7; n >= 1; n--) {
            Check.retype(x, 0, "09b000;18b000;27b000;36b000;45b000;54b000;63b000".substring(0, 7 * n - 1));
            said.due("count(6), all of " + n, x.count(6), n * (n - 1) / 2);
            if (n > 1) {
                said.due("crosses(0, 1, 1), all of " + n, x.crosses(0, 1, 1), n - 1);
            }
            said.due("rope(" + (n - 1) + ", 6) of " + n, x.rope(n - 1, 6), n - 1);
        }
    }

    private void faultOfAText() {
        said.promise(4, "The FAULT of a text; NONE.");
        GorgeRopes x = Check.gorge("00b000", "1");
        said.due("fault(0), well", x.fault(0), NONE);
        said.due("fault(1), the first byte", x.fault(1), 0);
        x.type(0, 'x');
        said.due("fault(0)", x.fault(0), 6);
        x.wipe(1);
        said.due("fault(1), empty", x.fault(1), NONE);
    }

    private void toldOfARope() {
        said.promise(5, "Of a ROPE: PEGS on the left (0), the right (1), KIND (2), BEARS (3), PRICE (4), "
                + "OWNER (5), its place by RIGHT (6; 0 on).");
        GorgeRopes x = Check.gorge("00b000;99c994", "1");
        int[][] want = {{0, 0, 0, 0, 0, 0, 1}, {9, 9, 2, 9, 9, 4, 0}};
        for (int r = 0; r < 2; r++) {
            for (int what = 0; what <= 6; what++) {
                said.due("rope(" + r + ", " + what + ")", x.rope(r, what), want[r][what]);
            }
            said.due("rope(" + r + ", -1)", x.rope(r, -1), BAD);
            said.due("rope(" + r + ", 7)", x.rope(r, 7), BAD);
        }
    }

    // ---- crossings

    /** Two ropes of the given pegs; both ways round, against what the words say. */
    private void allPegsCross() {
        said.term("Two ROPES CROSS, if one is higher than the other on the left and lower on the right.");
        for (int k = 0; k < 10000; k++) {
            int[] p = {k / 1000, k / 100 % 10, k / 10 % 10, k % 10};
            boolean cross = p[0] > p[2] && p[1] < p[3] || p[0] < p[2] && p[1] > p[3];
            GorgeRopes x = twoRopes(p);
            said.due("crosses(0, 1, 0) of " + k, x.crosses(0, 1, 0), cross ? 1 : 0);
            said.due("count(6) of " + k, x.count(6), cross ? 1 : 0);
        }
        said.promise(7, "BAD: likewise; NOT: they do not CROSS.");
        for (int[] p : new int[][] {{2, 8, 2, 7}, {2, 8, 3, 8}, {2, 8, 2, 8}, {2, 8, 3, 9}, {0, 0, 9, 9}}) {
            for (int k = 0; k < 4; k++) {
                said.due("crossing(0, 1, ..)", twoRopes(p).crossing(0, 1, k / 2, k % 2), LONG_NOT);
            }
        }
        places();
    }

    private static GorgeRopes twoRopes(int[] p) {
        return Check.gorge(p[0] + "" + p[1] + "b000;" + p[2] + "" + p[3] + "b000");
    }

    private void places() {
        said.term("PLACE of that: the part of the way from the left, a FRACTION; its HEIGHT: that of both "
                + "there, a FRACTION.");
        for (int k = 0; k < 10000; k++) {
            int[] p = {k / 1000, k / 100 % 10, k / 10 % 10, k % 10};
            if (p[0] < p[2] && p[1] > p[3]) {
                place(p, twoRopes(p));
            }
        }
        said.promise(7, "PLACE (which = 0), HEIGHT (1): above, below.");
        int[][] cases = {{0, 9, 1, 0, 1, 10, 9, 10}, {9, 0, 0, 1, 9, 10, 9, 10}, {1, 9, 9, 1, 1, 2, 5, 1},
            {8, 9, 9, 8, 1, 2, 17, 2}, {0, 1, 1, 0, 1, 2, 1, 2}};
        for (int[] c : cases) {
            for (int what = 0; what < 4; what++) {
                said.due("crossing(0, 1, " + what / 2 + ", " + what % 2 + ")",
                        twoRopes(c).crossing(0, 1, what / 2, what % 2), c[4 + what]);
            }
        }
        said.term("FRACTIONS are told in lowest terms, above and below (0 by 1).");
        for (int k = 0; k < 10000; k++) {
            int[] p = {k / 1000, k / 100 % 10, k / 10 % 10, k % 10};
            if (p[0] < p[2] && p[1] > p[3]) {
                lowest(p, twoRopes(p));
            }
        }
    }

    /** Either rope is, at that part of the way, at that height; both orders tell the same. */
    private void place(int[] p, GorgeRopes x) {
        long above = x.crossing(0, 1, 0, 0);
        long below = x.crossing(0, 1, 0, 1);
        long up = x.crossing(0, 1, 1, 0);
        long down = x.crossing(0, 1, 1, 1);
        String of = " of pegs " + p[0] + " " + p[1] + " " + p[2] + " " + p[3];
        for (int r = 0; r < 2; r++) {
            long height = p[2 * r] * below + (p[2 * r + 1] - p[2 * r]) * above;
            said.due("height of rope " + r + of, height * down, up * below);
        }
        said.holds("between the sides" + of, above > 0 && above < below);
        for (int k = 0; k < 4; k++) {
            said.due("crossing(1, 0, ..)" + of, x.crossing(1, 0, k / 2, k % 2),
                    x.crossing(0, 1, k / 2, k % 2));
        }
    }

    private void lowest(int[] p, GorgeRopes x) {
        for (int which = 0; which < 2; which++) {
            long above = x.crossing(0, 1, which, 0);
            long below = x.crossing(0, 1, which, 1);
            for (long d = 2; d <= above; d++) {
                said.holds(above + " by " + below + " of pegs " + p[0] + " " + p[1] + " " + p[2] + " "
                        + p[3], above % d != 0 || below % d != 0);
            }
            said.holds("below is above 0", below > 0);
        }
    }

    private void crossesWithOthers() {
        said.promise(6, "Whether two CROSS (what = 0; 1, 0), with how many others the first does (1).");
        GorgeRopes x = Check.gorge("09b000;10b000;20b000;30b000;40b000;50b000;60b000;70b000");
        said.due("crosses(0, 7, 1), all others", x.crosses(0, 7, 1), 7);
        said.due("crosses(7, 0, 1)", x.crosses(7, 0, 1), 1);
        said.due("crosses(7, 6, 1), b has no part in it", x.crosses(7, 6, 1), 1);
        said.due("crosses(7, 6, 0)", x.crosses(7, 6, 0), 0);
        GorgeRopes none = Check.gorge(EIGHT);
        said.due("crosses(0, 7, 1), none", none.crosses(0, 7, 1), 0);
        said.promise(6, "BAD: also one with itself.");
        for (int r = 0; r < 8; r++) {
            said.due("crosses(" + r + ", " + r + ", 0)", x.crosses(r, r, 0), BAD);
            said.due("crosses(" + r + ", " + r + ", 1)", x.crosses(r, r, 1), BAD);
        }
        said.promise(7, "BAD: likewise;");
        for (int r = 0; r < 8; r++) {
            said.due("crossing(" + r + ", " + r + ", 0, 0)", x.crossing(r, r, 0, 0), LONG_BAD);
        }
        said.due("crossing(6, 7, 2, 0), BAD ahead of NOT", x.crossing(6, 7, 2, 0), LONG_BAD);
        said.promise(7, "(As the least long and x more.)");
        said.due("crossing(0, 0, 0, 0)", x.crossing(0, 0, 0, 0), -9223372036854775806L);
        said.due("crossing(6, 7, 0, 0)", x.crossing(6, 7, 0, 0), -9223372036854775805L);
    }

    // ---- fares, fray, settings

    private void takesAndCosts() {
        said.term("TAKES 12 MINUTES, and 2 for each height that it ends higher than it began.");
        fares(0);
        said.term("It COSTS PRICE times (LOAD and 1), and 1 for each such height.");
        fares(1);
        said.promise(8, "What a trip TAKES (what = 0), COSTS with a LOAD (1).");
        GorgeRopes x = Check.gorge("09b990;90b000;55b000");
        said.due("takes(0, 0, 9, 0), the longest", x.takes(0, 0, 9, 0), 30);
        said.due("takes(0, 1, 9, 0), the shortest", x.takes(0, 1, 9, 0), 12);
        said.due("takes(1, 1, 0, 0), the longest from the right", x.takes(1, 1, 0, 0), 30);
        said.due("takes(0, 0, 9, 1), the dearest", x.takes(0, 0, 9, 1), 99);
        said.due("takes(2, 1, 9, 1), for nothing", x.takes(2, 1, 9, 1), 0);
    }

    private void fares(int what) {
        for (int left = 0; left <= 9; left++) {
            for (int right = 0; right <= 9; right++) {
                for (int price = 0; price <= 9; price += 9) {
                    GorgeRopes x = Check.gorge(left + "" + right + "b9" + price + "0");
                    for (int k = 0; k < 4; k++) {
                        int side = k / 2;
                        int load = k % 2 * 9;
                        int climb = Math.max(0, side == 0 ? right - left : left - right);
                        int want = what == 0 ? 12 + 2 * climb : price * (load + 1) + climb;
                        said.due("takes(0, " + side + ", " + load + ", " + what + ") of pegs " + left + " "
                                + right, x.takes(0, side, load, what), want);
                    }
                }
            }
        }
    }

    private void frays() {
        said.term("It FRAYS the ROPE by LOAD and 1.");
        for (int load = 0; load <= 9; load++) {
            GorgeRopes x = Check.gorge("09b990;00b000");
            x.trip(0, load % 2, 0, load, 0);
            said.due("frayed(0, 0), LOAD " + load, x.frayed(0, 0), load + 1);
            said.due("frayed(1, 0), the other rope", x.frayed(1, 0), 0);
        }
    }

    private void settings() {
        said.term("SETTINGS: GAP (1 to 9; 3 at first), LIFE (1 to 99; 40), LIMIT (0 to 999; 100).");
        int[][] bounds = {{1, 9, 3}, {1, 99, 40}, {0, 999, 100}};
        for (int what = 0; what < 3; what++) {
            GorgeRopes x = new GorgeRopes();
            int[] b = bounds[what];
            said.due("set(" + what + ", " + (b[0] - 1) + ")", x.set(what, b[0] - 1), BAD);
            said.due("set(" + what + ", " + (b[1] + 1) + ")", x.set(what, b[1] + 1), BAD);
            said.due("set(" + what + ", " + b[0] + "), as at first", x.set(what, b[0]), b[2]);
            said.due("set(" + what + ", " + b[1] + ")", x.set(what, b[1]), b[0]);
            said.due("set(" + what + ", " + b[1] + ") again", x.set(what, b[1]), b[1]);
        }
        said.promise(9, "GAP (what = 0), LIFE (1), LIMIT (2): what it was.");
        GorgeRopes x = new GorgeRopes();
        said.due("set(2, 999)", x.set(2, 999), 100);
        said.due("set(0, 9), the others are as they were", x.set(0, 9), 3);
        said.due("set(1, 99)", x.set(1, 99), 40);
        said.due("set(-1, 5)", x.set(-1, 5), BAD);
        said.due("set(3, 5)", x.set(3, 5), BAD);
        said.due("set(2, 0)", x.set(2, 0), 999);
        said.due("set(1, 1)", x.set(1, 1), 99);
        said.due("set(0, 1)", x.set(0, 1), 9);
    }
}
