/** Promises 1 to 9: a new object, the texts, the ropes and the settings. */
public final class RopesTest {
    private static final long LONG_BAD = Long.MIN_VALUE + 2, LONG_NOT = Long.MIN_VALUE + 3;
    private static final int MIN = Integer.MIN_VALUE, MAX = Integer.MAX_VALUE;

    private static final Check CHECK = new Check("RopesTest");

    public static void main(String[] args) {
        promise1New();
        promise2Type();
        promise3Wipe();
        promise4FaultOfRopes();
        promise4FaultOfRight();
        promise5Rope();
        promise6Crosses();
        promise7Crossing();
        promise8Takes();
        promise9Set();
        CHECK.end();
    }

    private static void due(String call, long got, long want) {
        CHECK.due(call, got, want);
    }

    private static void promise1New() {
        GorgeRopes x = new GorgeRopes();
        for (int what = 0; what <= 8; what++) {
            due("1: count(" + what + ")", x.count(what), 0);
        }
        due("1: fault(0)", x.fault(0), -1);
        due("1: fault(1)", x.fault(1), -1);
        due("1: clashes()", x.clashes(), 0);
        due("1: heavy()", x.heavy(), 0);
        due("1: wind(1)", x.wind(1), 0);
        due("1: needed()", x.needed(), 0);
        due("1: settled()", x.settled(), 0);
        due("1: set(0, 3)", x.set(0, 3), 3);
        due("1: set(1, 40)", x.set(1, 40), 40);
        due("1: set(2, 100)", x.set(2, 100), 100);
        for (int s = 0; s < 4; s++) {
            due("1: lose(" + s + ")", x.lose(s), -11);
        }
        GorgeRopes other = new GorgeRopes();
        Check.type(x, 0, "00b000");
        x.trip(0, 0, 0, 0, 0);
        x.part(0, 0);
        x.sheet(0, 0, 1);
        x.set(0, 9);
        due("1: another object has no bytes", other.count(1), 0);
        due("1: another object has no trips", other.count(3), 0);
        due("1: another object has no parts", other.count(5), 0);
        due("1: another object has no finding", other.count(8), 0);
        due("1: another object has its own gap", other.set(0, 1), 3);
        due("1: another object's sheet is lost", other.lose(0), -11);
    }

    private static void promise2Type() {
        GorgeRopes x = new GorgeRopes();
        for (int i = 1; i <= 60; i++) {
            due("2: type(0, ..), byte " + i, x.type(0, i * 4), i);
        }
        due("2: type(0, 48), full", x.type(0, 48), -4);
        due("2: type(0, 256), full but BAD first", x.type(0, 256), -2);
        due("2: count(1)", x.count(1), 60);
        for (int i = 1; i <= 10; i++) {
            due("2: type(1, ..), byte " + i, x.type(1, i == 1 ? 0 : 255), i);
        }
        due("2: type(1, 48), full", x.type(1, 48), -4);
        due("2: type(1, -1), full but BAD first", x.type(1, -1), -2);
        due("2: count(2)", x.count(2), 10);
        int[][] bad = {{-1, 48}, {2, 48}, {MIN, 48}, {MAX, 48}, {0, -1}, {0, 256}, {1, 256}, {0, MIN},
            {1, MAX}};
        GorgeRopes y = new GorgeRopes();
        for (int[] b : bad) {
            due("2: type(" + b[0] + ", " + b[1] + ")", y.type(b[0], b[1]), -2);
        }
        due("2: count(1) after BAD", y.count(1), 0);
        due("2: count(2) after BAD", y.count(2), 0);
    }

    private static void promise3Wipe() {
        GorgeRopes x = Check.gorge("28b930;82b521", "10");
        x.trip(1, 0, 3, 0, 0);
        due("3: wipe(1)", x.wipe(1), 2);
        due("3: wipe(1) again", x.wipe(1), 0);
        due("3: rope(1, 6) by numbers again", x.rope(1, 6), 1);
        due("3: count(1)", x.count(1), 13);
        due("3: wipe(-1)", x.wipe(-1), -2);
        due("3: wipe(2)", x.wipe(2), -2);
        due("3: count(0)", x.count(0), 2);
        due("3: wipe(0)", x.wipe(0), 13);
        due("3: wipe(0) again", x.wipe(0), 0);
        due("3: count(0) after", x.count(0), 0);
        due("3: count(3), trips stay", x.count(3), 1);
        due("3: count(4)", x.count(4), 0);
        due("3: rope(0, 0)", x.rope(0, 0), -2);
        Check.type(x, 0, "28b930;82b521");
        due("3: count(4), it counts again", x.count(4), 1);
    }

    private static void ropes(String text, int fault, int n) {
        GorgeRopes x = Check.gorge(text);
        due("4: fault(0) of " + text, x.fault(0), fault);
        due("4: count(0) of " + text, x.count(0), n);
    }

    private static void promise4FaultOfRopes() {
        String eight = "00b000;11b000;22b000;33b000;44b000;55b000;66b000;77b000";
        ropes("", -1, 0);
        ropes("00b000", -1, 1);
        ropes("99c994", -1, 1);
        ropes("12h340;21c431", -1, 2);
        ropes(eight, -1, 8);
        // not ended: the end
        ropes("0", 1, 0);
        ropes("00", 2, 0);
        ropes("00b", 3, 0);
        ropes("00b0", 4, 0);
        ropes("00b00", 5, 0);
        ropes("00b000;", 7, 0);
        ropes("00b000;1", 8, 0);
        ropes(eight + ";", 56, 0);
        // the first byte with which it cannot go on
        ropes(";", 0, 0);
        ropes("b", 0, 0);
        ropes("0b", 1, 0);
        ropes("000", 2, 0);
        ropes("00a000", 2, 0);
        ropes("00B000", 2, 0);
        ropes("00d000", 2, 0);
        ropes("00bb", 3, 0);
        ropes("00b0;", 4, 0);
        ropes("00b00;", 5, 0);
        ropes("00b0000", 6, 0);
        ropes("00b000,00b000", 6, 0);
        ropes("00b000;;", 7, 0);
        ropes("/0b000", 0, 0);
        ropes(":0b000", 0, 0);
        ropes("0/b000", 1, 0);
        ropes("00b:00", 3, 0);
        ropes("00b0:0", 4, 0);
        ropes("00b000;00b000;00x", 16, 0);
        ropes("00b00\u0000", 5, 0);
        ropes("\u00ff", 0, 0);
        // an owner that may not be
        ropes("00b005", 5, 0);
        ropes("00b009", 5, 0);
        ropes("00b004;00b005;x", 12, 0);
        ropes("00b005;x", 5, 0);
        // the first byte of a ninth
        ropes(eight + ";8", 56, 0);
        ropes(eight + ";88b0", 56, 0);
        ropes(eight + ";x", 56, 0);
        ropes(eight + "x", 55, 0);
        GorgeRopes x = new GorgeRopes();
        due("4: fault(-1)", x.fault(-1), -2);
        due("4: fault(2)", x.fault(2), -2);
    }

    private static void right(String ropes, String right, int fault, int... ranks) {
        GorgeRopes x = Check.gorge(ropes, right);
        due("4: fault(1) of " + right, x.fault(1), fault);
        for (int r = 0; r < ranks.length; r++) {
            due("4: rope(" + r + ", 6) by " + right, x.rope(r, 6), ranks[r]);
        }
    }

    private static void promise4FaultOfRight() {
        String four = "00b000;00b000;00b000;00b000";
        right(four, "", -1, 0, 1, 2, 3);
        right(four, "3", -1, 1, 2, 3, 0);
        right(four, "21", -1, 2, 1, 0, 3);
        right(four, "3210", -1, 3, 2, 1, 0);
        right(four, "1302", -1, 2, 0, 3, 1);
        right(four, "4", 0, 0, 1, 2, 3);
        right(four, "34", 1, 0, 1, 2, 3);
        right(four, "33", 1, 0, 1, 2, 3);
        right(four, "3213", 3, 0, 1, 2, 3);
        right(four, "32104", 4, 0, 1, 2, 3);
        right(four, "3;1", 1, 0, 1, 2, 3);
        right(four, "/", 0, 0, 1, 2, 3);
        right(four, "\u00ff", 0, 0, 1, 2, 3);
        right("", "0", 0);
        right("00b000;", "0", 0);
        String eight = "00b000;11b000;22b000;33b000;44b000;55b000;66b000;77b000";
        right(eight, "76543210", -1, 7, 6, 5, 4, 3, 2, 1, 0);
        right(eight, "7654321077", 8, 0, 1, 2, 3, 4, 5, 6, 7);
        right(eight, "8", 0, 0, 1, 2, 3, 4, 5, 6, 7);
        right(eight, "5", -1, 1, 2, 3, 4, 5, 0, 6, 7);
        // the ropes change, and with them what may be told
        GorgeRopes x = Check.gorge("00b000", "1");
        due("4: fault(1), one rope", x.fault(1), 0);
        Check.type(x, 0, ";00b000");
        due("4: fault(1), two ropes", x.fault(1), -1);
        due("4: rope(1, 6)", x.rope(1, 6), 0);
        Check.type(x, 0, ";");
        due("4: fault(1), none again", x.fault(1), 0);
    }

    private static void promise5Rope() {
        GorgeRopes x = Check.gorge("28b930;91h574;05c812", "2");
        int[][] want = {{2, 8, 0, 9, 3, 0, 1}, {9, 1, 1, 5, 7, 4, 2}, {0, 5, 2, 8, 1, 2, 0}};
        for (int r = 0; r < 3; r++) {
            for (int what = 0; what < 7; what++) {
                due("5: rope(" + r + ", " + what + ")", x.rope(r, what), want[r][what]);
            }
        }
        int[][] bad = {{-1, 0}, {3, 0}, {7, 0}, {MIN, 0}, {MAX, 0}, {0, -1}, {0, 7}, {0, MIN},
            {0, MAX}};
        for (int[] b : bad) {
            due("5: rope(" + b[0] + ", " + b[1] + ")", x.rope(b[0], b[1]), -2);
        }
        Check.type(x, 0, ";");
        due("5: rope(0, 0) with a fault", x.rope(0, 0), -2);
    }

    private static void promise6Crosses() {
        GorgeRopes x = Check.gorge("28b000;82b000;55b000;27b000;38b000;28b000");
        // 0 and 3 begin on one peg, 0 and 4 end on one, 0 and 5 are alike
        int[] withFirst = {0, 1, 1, 0, 0, 0};
        for (int b = 1; b < 6; b++) {
            due("6: crosses(0, " + b + ", 0)", x.crosses(0, b, 0), withFirst[b]);
            due("6: crosses(" + b + ", 0, 0)", x.crosses(b, 0, 0), withFirst[b]);
        }
        due("6: crosses(3, 4, 0), one below the other", x.crosses(3, 4, 0), 0);
        due("6: crosses(0, 1, 1)", x.crosses(0, 1, 1), 2);
        due("6: crosses(0, 3, 1)", x.crosses(0, 3, 1), 2);
        due("6: crosses(1, 0, 1)", x.crosses(1, 0, 1), 5);
        due("6: crosses(2, 5, 1)", x.crosses(2, 5, 1), 5);
        int[][] bad = {{0, 0, 0}, {2, 2, 1}, {-1, 0, 0}, {0, -1, 0}, {6, 0, 0}, {0, 6, 1}, {0, 1, -1},
            {0, 1, 2}, {MAX, 0, 0}, {0, MIN, 0}, {0, 1, MAX}};
        for (int[] b : bad) {
            due("6: crosses(" + b[0] + ", " + b[1] + ", " + b[2] + ")", x.crosses(b[0], b[1], b[2]),
                    -2);
        }
    }

    private static void crossing(String ropes, int... want) {
        GorgeRopes x = Check.gorge(ropes);
        for (int k = 0; k < 4; k++) {
            due("7: crossing(0, 1, " + k / 2 + ", " + k % 2 + ") of " + ropes,
                    x.crossing(0, 1, k / 2, k % 2), want[k]);
            due("7: crossing(1, 0, " + k / 2 + ", " + k % 2 + ") of " + ropes,
                    x.crossing(1, 0, k / 2, k % 2), want[k]);
        }
    }

    private static void promise7Crossing() {
        crossing("19b004;91h994", 1, 2, 5, 1);
        crossing("05b000;30b000", 3, 8, 15, 8);
        crossing("06b000;20b000", 1, 4, 3, 2);
        crossing("09b000;10b000", 1, 10, 9, 10);
        crossing("90b000;01b000", 9, 10, 9, 10);
        crossing("90b000;09b000", 1, 2, 9, 2);
        crossing("44b000;35b000", 1, 2, 4, 1);
        crossing("78b000;96b000", 1, 2, 15, 2);
        crossing("98b000;79b000", 2, 3, 25, 3);
        GorgeRopes x = Check.gorge("28b000;82b000;27b000");
        due("7: crossing(0, 2, 0, 0)", x.crossing(0, 2, 0, 0), LONG_NOT);
        due("7: crossing(2, 0, 1, 1)", x.crossing(2, 0, 1, 1), LONG_NOT);
        int[][] bad = {{0, 0, 0, 0}, {-1, 0, 0, 0}, {3, 0, 0, 0}, {0, 3, 0, 0}, {0, -1, 0, 0},
            {0, 1, -1, 0}, {0, 1, 2, 0}, {0, 1, 0, -1}, {0, 1, 0, 2}, {0, 2, 2, 0}, {0, 2, 0, MIN},
            {MAX, MIN, 0, 0}};
        for (int[] b : bad) {
            due("7: crossing(" + b[0] + ", " + b[1] + ", " + b[2] + ", " + b[3] + ")",
                    x.crossing(b[0], b[1], b[2], b[3]), LONG_BAD);
        }
    }

    private static void promise8Takes() {
        GorgeRopes x = Check.gorge("28b930;91h574;44c000;09b190");
        int[][] minutes = {{24, 12}, {12, 28}, {12, 12}, {30, 12}};
        int[][] idle = {{9, 3}, {7, 15}, {0, 0}, {18, 9}};
        int[][] laden = {{36, 30}, {70, 78}, {0, 0}, {99, 90}};
        for (int r = 0; r < 4; r++) {
            for (int side = 0; side < 2; side++) {
                String of = "8: takes(" + r + ", " + side + ", ";
                due(of + "0, 0)", x.takes(r, side, 0, 0), minutes[r][side]);
                due(of + "9, 0)", x.takes(r, side, 9, 0), minutes[r][side]);
                due(of + "0, 1)", x.takes(r, side, 0, 1), idle[r][side]);
                due(of + "9, 1)", x.takes(r, side, 9, 1), laden[r][side]);
            }
        }
        int[][] bad = {{-1, 0, 0, 0}, {4, 0, 0, 0}, {0, -1, 0, 0}, {0, 2, 0, 0}, {0, 0, -1, 0},
            {0, 0, 10, 0}, {0, 0, -1, 1}, {0, 0, 10, 1}, {0, 0, 0, -1}, {0, 0, 0, 2},
            {MAX, 0, 0, 0}, {0, MIN, 0, 0}, {0, 0, MAX, 1}, {0, 0, 0, MIN}};
        for (int[] b : bad) {
            due("8: takes(" + b[0] + ", " + b[1] + ", " + b[2] + ", " + b[3] + ")",
                    x.takes(b[0], b[1], b[2], b[3]), -2);
        }
    }

    private static void promise9Set() {
        GorgeRopes x = new GorgeRopes();
        int[][] run = {{0, 1, 3}, {0, 9, 1}, {0, 9, 9}, {1, 1, 40}, {1, 99, 1}, {2, 0, 100},
            {2, 999, 0}, {2, 7, 999}};
        for (int[] r : run) {
            due("9: set(" + r[0] + ", " + r[1] + ")", x.set(r[0], r[1]), r[2]);
        }
        int[][] bad = {{0, 0}, {0, 10}, {1, 0}, {1, 100}, {2, -1}, {2, 1000}, {-1, 5}, {3, 5},
            {MIN, 5}, {MAX, 5}, {0, MIN}, {1, MAX}, {2, MIN}};
        for (int[] b : bad) {
            due("9: set(" + b[0] + ", " + b[1] + ")", x.set(b[0], b[1]), -2);
        }
        due("9: set(0, 1) after BAD", x.set(0, 1), 9);
        due("9: set(1, 1) after BAD", x.set(1, 1), 99);
        due("9: set(2, 1) after BAD", x.set(2, 1), 7);
    }
}
