/** Holds answers against those that are due, and ends a test with exit code 1 if one was wrong. */
final class Check {
    private static final int MOST_SHOWN = 40;

    private final String name;
    private int asked;
    private int wrong;

    Check(String name) {
        this.name = name;
    }

    void due(String call, long got, long want) {
        asked++;
        if (got != want) {
            fail(call + " answered " + got + ", due is " + want);
        }
    }

    void holds(String what, boolean is) {
        asked++;
        if (!is) {
            fail(what);
        }
    }

    private void fail(String what) {
        wrong++;
        if (wrong <= MOST_SHOWN) {
            System.out.println(name + ": " + what);
        }
    }

    void end() {
        System.out.println(name + ": " + asked + " answers, " + wrong + " wrong");
        if (wrong != 0 || asked == 0) {
            System.exit(1);
        }
    }

    /** A new object with these texts typed. */
    static GorgeRopes gorge(String ropes, String right) {
        GorgeRopes x = new GorgeRopes();
        type(x, 0, ropes);
        type(x, 1, right);
        return x;
    }

    static GorgeRopes gorge(String ropes) {
        return gorge(ropes, "");
    }

    static void type(GorgeRopes x, int text, String bytes) {
        for (int i = 0; i < bytes.length(); i++) {
            x.type(text, bytes.charAt(i));
        }
    }

    /** A text is made anew. */
    static void retype(GorgeRopes x, int text, String bytes) {
        x.wipe(text);
        type(x, text, bytes);
    }
}
