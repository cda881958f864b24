import java.util.ArrayList;
import java.util.List;

/** All that can be asked of an object, in one order. Asking spends it: it is empty at the end. */
final class Observed {
    /** Ropes of all kinds, prices and owners, none of which bears all: so that trips and parts can be told apart. */
    private static final String PLAIN = "09b910;90b921;28h932;82h543;55c944;46c450;64b461;37b772";

    private final GorgeRopes x;
    private final List<String> answers = new ArrayList<>();
    private final int finding;

    private Observed(GorgeRopes x) {
        this.x = x;
        finding = x.count(8);
    }

    static Observed of(GorgeRopes x) {
        Observed all = new Observed(x);
        all.texts();
        for (int s = 0; s < 4; s++) {
            all.sheet(s);
        }
        all.note("digest()", x.digest());
        all.settings();
        all.tripsAndParts();
        return all;
    }

    /** count(8), as it was ahead of all that was asked. */
    int finding() {
        return finding;
    }

    int calls() {
        return answers.size() + 1;
    }

    /** The first answer that is not as the other's, or nothing. */
    String unlike(Observed other) {
        for (int i = 0; i < Math.max(answers.size(), other.answers.size()); i++) {
            String mine = i < answers.size() ? answers.get(i) : "no more";
            String its = i < other.answers.size() ? other.answers.get(i) : "no more";
            if (!mine.equals(its)) {
                return mine + ", where it was " + its;
            }
        }
        return "";
    }

    private long note(String call, long answer) {
        answers.add(call + " answers " + answer);
        return answer;
    }

    private void texts() {
        for (int what = 0; what <= 7; what++) {
            note("count(" + what + ")", x.count(what));
        }
        note("fault(0)", x.fault(0));
        note("fault(1)", x.fault(1));
        int ropes = (int) note("count(0)", x.count(0));
        for (int r = 0; r < ropes; r++) {
            for (int what = 0; what <= 6; what++) {
                note("rope(" + r + ", " + what + ")", x.rope(r, what));
            }
        }
    }

    private void sheet(int s) {
        for (int form = 0; form < 3; form++) {
            note("get(" + s + ", " + form + ", -1)", x.get(s, form, -1));
            boolean isOfForm = note("count(8)", x.count(8)) == 2;
            long item = isOfForm ? 0 : Integer.MIN_VALUE;
            for (int i = 0; i < 60 && item != Integer.MIN_VALUE; i++) {
                item = note("get(" + s + ", " + form + ", " + i + ")", x.get(s, form, i));
            }
        }
        note("lose(" + s + ")", x.lose(s));
    }

    private void settings() {
        for (int what = 0; what < 3; what++) {
            note("set(" + what + ", 1)", x.set(what, 1));
        }
        x.set(2, 999);
        answers.add("set(2, 999)");
    }

    /** With ropes for all of them, one trip less each time. */
    private void tripsAndParts() {
        note("wipe(0)", x.wipe(0));
        note("wipe(1)", x.wipe(1));
        for (char c : PLAIN.toCharArray()) {
            note("type(0, " + (int) c + ")", x.type(0, c));
        }
        for (int left = x.count(3); left >= 0; left--) {
            note("digest()", x.digest());
            note("undo()", x.undo());
        }
        note("gone()", x.gone());
    }
}
