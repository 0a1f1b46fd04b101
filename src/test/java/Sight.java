import java.util.ArrayList;
import java.util.List;

/**
 * All that can be seen of a TakenBack that was told some calls: what it answers to every call that only looks, and what
 * comes to light by going on with it (THE TAPE, the SEED, what may be UNDONE, LETTERS, ..), each on one of its own.
 */
final class Sight {
    /** A call behind those that were told, and its answer. */
    record Look(String text, long answer) {
    }

    private final List<Call> told;
    private final List<Look> looks = new ArrayList<>();
    private final int stones, lines, copies, calls;
    private TakenBack x;
    private int left;

    private Sight(List<Call> told, int calls) {
        this.told = told;
        this.calls = calls;
        again();
        stones = (int) see("count(0)");
        lines = (int) see("count(1)");
        copies = (int) see("count(2)");
    }

    /** As many calls may be made behind those that were told, on each one of them. */
    static List<Look> of(List<Call> told, int calls) {
        if (calls < 50) {
            throw new IllegalStateException("too few calls are left to see anything");
        }
        Sight s = new Sight(told, calls);
        s.looking();
        s.goingOn();
        return s.looks;
    }

    /** Another one that was told the same. */
    private void again() {
        x = new TakenBack();
        for (Call c : told) {
            c.on(x);
        }
        left = calls;
    }

    private long see(String call) {
        if (left <= 0) {
            return Told.BAD;
        }
        left--;
        Call c = Call.of(call);
        long answer = c.on(x);
        looks.add(new Look(call, answer));
        return answer;
    }

    /** A call that only looks: when no more calls are left, it is put to another one. */
    private long look(String call) {
        if (left <= 0) {
            again();
        }
        return see(call);
    }

    private void all(String name, int first, int last) {
        for (int i = first; i <= last; i++) {
            look(name + i + ")");
        }
    }

    private void looking() {
        all("count(", 0, 6);
        all("trace(", 0, 9);
        for (int s = 0; s < stones; s++) {
            all("ofStone(" + s + ", ", 0, 8);
            all("span(" + s + ", ", 0, 3);
            look("worth(" + s + ")");
            kindly(s);
        }
        for (int s = 0; s < stones && s < 12; s++) {
            all("falls(" + s + ", ", -1, 1);
            all("turned(" + s + ", ", -1, 1);
            all("with(" + s + ", " + (stones - 1) + ", ", 0, 3);
        }
        for (int l = 0; l < lines; l++) {
            all("ofLine(" + l + ", ", 0, 4);
        }
        all("lacks(", -2, copies);
        all("land(", 0, 7);
        all("tell(9, ", 0, 2);
        for (int n = 0; n < 20; n++) {
            all("hands(" + n + ", ", -1, 1);
            look("fair(" + n + ")");
        }
        for (int p = 0; p < 6; p++) {
            all("taken(" + p + ", ", 0, 6);
            long first = look("element(" + p + ", 0)");
            all("element(" + p + ", ", 1, first == Told.NO_VALUE ? 1 : 60);
        }
    }

    private void kindly(int s) {
        long kind = look("ofStone(" + s + ", 0)");
        if (kind == 3) {
            look("says(" + s + ")");
            look("hung(" + s + ")");
        } else if (kind >= 5) {
            all("odds(" + s + ", ", 0, 1);
        }
    }

    private void goingOn() {
        again();
        see("seed(5)");
        again();
        see("text(0)");
        heads("odds(", ", 0)");
        again();
        changes("undo()");
        again();
        changes("redo()");
        again();
        for (int c = 0; c < copies; c++) {
            see("mark(" + c + ", 1)");
        }
        again();
        heads("letter(", ")");
        again();
        months();
        again();
        for (int s = 0; s < stones; s++) {
            see("restore(" + s + ")");
            see("ofStone(" + s + ", 2)");
        }
        shares();
    }

    private void heads(String name, String end) {
        for (int s = 0; s < stones; s++) {
            see(name + s + end);
        }
    }

    private void changes(String back) {
        long many = 0;
        for (int n = 0; n < 41 && many >= 0 && left > 0; n++) {
            many = see(back);
            for (int l = 0; l < lines && l < 4; l++) {
                see("ofLine(" + l + ", 2)");
                see("ofLine(" + l + ", 3)");
            }
            see("lacks(-1)");
        }
        for (int l = 4; l < lines; l++) {
            see("ofLine(" + l + ", 2)");
            see("ofLine(" + l + ", 3)");
        }
    }

    private void months() {
        see("months(1)");
        see("months(23)");
        heads("ofStone(", ", 6)");
        for (int l = 0; l < lines; l++) {
            see("ofLine(" + l + ", 4)");
        }
    }

    /** A NAME that comes to a STONE tells by its part how great the SHARES of the others are. */
    private void shares() {
        for (int s = 0; s < stones && s < 12; s++) {
            again();
            see("name(" + s + ", 19, 1)");
            for (int n = 0; n < 20; n++) {
                see("share(" + s + ", " + n + ")");
            }
        }
    }
}
