/** The sentences of part 4 of the Terms that name a bound: NAMES, SHARES, HANDS, SPAN, CHANGES (promises 28 to 34). */
public final class BoundsOfNamesTest {
    private BoundsOfNamesTest() {
    }

    public static void main(String[] args) {
        namesAre20();
        sharesOneToNine();
        thousandthsAreCut();
        shareOfNone();
        handsAndNoneSuch();
        handsOfThoseWithIt();
        handsMostFirst();
        handsOf63();
        fairOverTakenOnes();
        fairIsBad();
        spanOfAllSenses();
        spanIsBad();
        nothingToUndo();
        latestFirst();
        noOtherBehind();
        refusedOnesAreNoOthers();
        sameOnesAreNoOthers();
        fortyAreKept();
        fortyOfOthersAreKept();
        fortyUndoneAndDoneAgain();
        Check.end();
    }

    /** "NAMES 0 .. 19 are on STONES"; "how many NAMES it has". */
    private static void namesAre20() {
        Told x = new Told("28").plain(0, 2);
        int[] wrong = {Told.LEAST, -1, 20, 21, 31, 32, Told.GREATEST};
        for (int n : wrong) {
            x.refused("name(0, " + n + ", 5)", -1).refused("share(0, " + n + ")", -1);
        }
        for (int n = 19; n >= 0; n--) {
            x.due("name(0, " + n + ", 5)", 20 - n).due("share(0, " + n + ")", 1000 / (20 - n));
        }
        x.due("name(0, 0, 1)", 20).due("name(0, 19, 9)", 20).due("name(1, 19, 1)", 1).due("name(1, 19, 2)", 1).due("name(1, 0, 2)", 2);
        for (int s : new int[] {Told.LEAST, -1, 2, Told.GREATEST}) {
            x.refused("name(" + s + ", 0, 5)", -1).refused("share(" + s + ", 0)", -1);
        }
        for (int n : wrong) {
            x.refused("name(1, " + n + ", 5)", -1);
        }
    }

    /** "with SHARES (1 .. 9)"; "again: that is it now". */
    private static void sharesOneToNine() {
        Told x = new Told("28").plain(0, 1).tell("name(0, 3, 5); name(0, 4, 5)");
        int[] wrong = {Told.LEAST, -1, 0, 10, Told.GREATEST};
        for (int v : wrong) {
            x.refused("name(0, 3, " + v + ")", -1).refused("name(0, 5, " + v + ")", -1);
        }
        x.due("share(0, 3)", 500).due("name(0, 3, 1)", 2).due("share(0, 3)", 166).due("share(0, 4)", 833);
        x.due("name(0, 3, 9)", 2).due("share(0, 3)", 642).due("share(0, 4)", 357).due("name(0, 4, 9)", 2).due("share(0, 4)", 500);
    }

    /** "its part of all SHARES of a STONE in thousandths (cut)". */
    private static void thousandthsAreCut() {
        Told x = new Told("29").plain(0, 2).tell("name(0, 0, 1)").due("share(0, 0)", 1000);
        for (int n = 1; n < 20; n++) {
            x.tell("name(0, " + n + ", 9)").due("share(0, 0)", 1000 / (1 + 9 * n)).due("share(0, " + n + ")", 9000 / (1 + 9 * n));
        }
        x.due("share(0, 0)", 5).due("share(0, 19)", 52);
        x.tell("name(1, 0, 9)").due("share(1, 0)", 1000).tell("name(1, 1, 1)").due("share(1, 0)", 900).due("share(1, 1)", 100);
    }

    /** "SHARE of a NAME of a STONE. BAD (it has none)." */
    private static void shareOfNone() {
        Told x = new Told("29").plain(0, 2).tell("name(0, 3, 5)").refused("share(0, 2)", -1).refused("share(0, 4)", -1);
        x.refused("share(1, 3)", -1).refused("share(2, 3)", -1).refused("share(-1, 3)", -1).due("share(0, 3)", 1000);
        x.tell("name(1, 3, 1)").due("share(1, 3)", 1000);
    }

    /** "how many (i -1), the i-th. BAD (also none such)." */
    private static void handsAndNoneSuch() {
        Told x = new Told("30").tell("stone(1, 1, 1); stone(1, 1, 1); name(0, 19, 1); name(1, 0, 1)");
        int[] wrong = {Told.LEAST, -1, 20, 31, 32, 51, Told.GREATEST};
        for (int n : wrong) {
            x.refused("hands(" + n + ", -1)", -1).refused("hands(" + n + ", 0)", -1).refused("fair(" + n + ")", -1);
        }
        for (int i : new int[] {Told.LEAST, -2, 1, 2, 64, Told.GREATEST}) {
            x.refused("hands(19, " + i + ")", -1).refused("hands(0, " + i + ")", -1);
        }
        x.due("hands(19, -1)", 1).due("hands(19, 0)", 0).due("hands(0, -1)", 1).due("hands(0, 0)", 1);
        x.due("hands(7, -1)", 0).refused("hands(7, 0)", -1);
    }

    /** "STONES on which it is, or that have a NAME with it on some STONE: of FIRSTS that are not TAKEN". */
    private static void handsOfThoseWithIt() {
        Told x = new Told("30").tell("stone(1, 1, 1); stone(1, 1, 1); stone(1, 1, 1); stone(4, 0, 0); stone(5, 1, 0)");
        x.tell("name(0, 0, 1); name(1, 1, 1); name(2, 2, 1)").due("hands(0, -1)", 1).due("hands(0, 0)", 0);
        x.tell("name(3, 0, 1); name(3, 1, 1)").due("hands(0, -1)", 2).due("hands(0, 1)", 1).due("hands(1, -1)", 2);
        x.tell("name(4, 1, 1); name(4, 2, 1)").due("hands(0, -1)", 2).due("hands(1, -1)", 3).due("hands(2, -1)", 2).due("hands(2, 0)", 1);
        x.tell("take(3, 1, 0); take(4, 2, 0)").due("hands(0, -1)", 2).due("hands(1, -1)", 3);
        x.tell("take(1, 0, 1)").due("hands(0, -1)", 1).due("hands(1, -1)", 2).due("hands(1, 0)", 0).due("hands(1, 1)", 2);
        x.tell("restore(1)").due("hands(1, -1)", 3).due("hands(1, 1)", 1);
    }

    /** "in order of how many STONES stand on them (along all), the most first; of like ones the least". */
    private static void handsMostFirst() {
        Told x = new Told("30");
        for (int n = 0; n < 5; n++) {
            x.tell("stone(1, 1, 1); name(" + n + ", 7, 1)");
        }
        x.plain(4, 3).tell("line(5, 4, 50); line(6, 5, 50); line(6, 2, 50); line(7, 2, 50); line(7, 1, 50)");
        // on 4: 5 6; on 2: 6 7; on 1: 7
        order(x, 2, 4, 1, 0, 3);
        order(x.tell("line(7, 6, 50)"), 4, 2, 1, 0, 3);
        order(x.tell("line(6, 1, 50)"), 4, 1, 2, 0, 3);
        order(x.tell("line(5, 3, 50)"), 3, 4, 1, 2, 0);
        order(x.tell("take(4, 0, 1)"), 3, 1, 2, 0);
    }

    private static void order(Told x, int... due) {
        x.due("hands(7, -1)", due.length);
        for (int i = 0; i < due.length; i++) {
            x.due("hands(7, " + i + ")", due[i]);
        }
        x.refused("hands(7, " + due.length + ")", -1);
    }

    /** As many as there can be, one on which 1 STONE stands. */
    private static void handsOf63() {
        Told x = new Told("30");
        for (int n = 0; n < 63; n++) {
            x.tell("stone(1, 1, 1); name(" + n + ", 0, 1)");
        }
        x.tell("stone(4, 0, 0); line(63, 62, 50)").due("hands(0, -1)", 63).due("hands(0, 0)", 62).refused("hands(0, 63)", -1);
        for (int i = 1; i < 63; i++) {
            x.due("hands(0, " + i + ")", i - 1);
        }
    }

    /** "FAIR: of a NAME the sum over TAKEN STONES of its SHARE": of none, of some, of all 64. */
    private static void fairOverTakenOnes() {
        Told x = new Told("31");
        for (int n = 0; n < 64; n++) {
            x.tell("stone(" + n % 2 * 4 + ", 0, 0); name(" + n + ", 19, 1)");
        }
        x.tell("name(1, 0, 9)").due("fair(19)", 0).due("fair(0)", 0);
        for (int n = 0; n < 64; n++) {
            x.tell("take(" + n + ", " + n % 3 + ", 5)").due("fair(19)", 1000 * (n + 1) - (n < 1 ? 0 : 900));
        }
        x.due("fair(0)", 900).due("fair(1)", 0).tell("restore(1)").due("fair(0)", 0).due("fair(19)", 63000);
        x.tell("name(0, 1, 2)").due("fair(19)", 62333).due("fair(1)", 666);
    }

    /** "FAIR of a NAME. BAD." */
    private static void fairIsBad() {
        Told x = new Told("31").plain(0, 2).tell("name(0, 0, 1); name(0, 19, 1); take(0, 1, 0); take(1, 1, 0)");
        x.refused("fair(-1)", -1).refused("fair(20)", -1).due("fair(0)", 500).due("fair(19)", 500).due("fair(18)", 0);
    }

    /** "how many for it at least (what 0), at most (1), UNREAD (2), against it (3)": of 63 LINES, too. */
    private static void spanOfAllSenses() {
        Told x = new Told("32").plain(0, 64).due("span(0, 0)", 0).due("span(0, 1)", 0).due("span(0, 2)", 0).due("span(0, 3)", 0);
        for (int n = 1; n < 64; n++) {
            x.tell("line(" + n + ", 0, " + (n % 3 * 100 + 1) + ")");
        }
        span(x, 21, 42, 21, 21);
        x.due("change(1, 1, 0)", 2);
        span(x, 22, 42, 20, 21);
        x.due("change(4, 1, 1)", 2);
        span(x, 22, 41, 19, 22);
        x.due("change(0, 1, 2)", 1);
        span(x, 22, 42, 20, 21);
        x.due("undo()", 2);
        span(x, 22, 41, 19, 22);
        x.due("change(0, 0, 99)", 1);
        span(x, 22, 41, 19, 22);
        x.due("span(63, 1)", 0).due("span(62, 1)", 0).tell("line(63, 62, 201)").due("span(62, 1)", 1).due("span(62, 0)", 0);
    }

    private static void span(Told x, int... due) {
        for (int what = 0; what < 4; what++) {
            x.due("span(0, " + what + ")", due[what]);
        }
    }

    /** "LINES to a STONE .. BAD." */
    private static void spanIsBad() {
        Told x = new Told("32").plain(0, 2).tell("line(1, 0, 201)");
        for (int what : new int[] {Told.LEAST, -1, 4, Told.GREATEST}) {
            x.refused("span(0, " + what + ")", -1).refused("span(1, " + what + ")", -1);
        }
        for (int s : new int[] {Told.LEAST, -1, 2, 64, Told.GREATEST}) {
            x.refused("span(" + s + ", 0)", -1).refused("span(" + s + ", 2)", -1);
        }
        x.due("span(0, 2)", 1).due("span(1, 2)", 0);
    }

    /** "UNDONE: how many may still be. STATE: none"; "DONE AGAIN: how many may still be. STATE: none." */
    private static void nothingToUndo() {
        Told x = new Told("33").plain(0, 2).refused("undo()", Told.STATE).refused("redo()", Told.STATE);
        x.tell("line(1, 0, 50); copy(0, 1)").refused("undo()", Told.STATE).due("change(0, 0, 51)", 50).refused("redo()", Told.STATE);
        x.due("undo()", 0).refused("undo()", Told.STATE).due("redo()", 0).refused("redo()", Told.STATE).due("undo()", 0);
        x.refused("undo()", Told.STATE).due("ofLine(0, 2)", 50).due("redo()", 0).due("ofLine(0, 2)", 51).due("count(5)", 1);
    }

    /** "CHANGES (WEIGHTS, SENSES, MARKS) can be UNDONE, the latest first, and DONE AGAIN". */
    private static void latestFirst() {
        Told x = new Told("33").plain(0, 3).tell("line(1, 0, 50); line(2, 0, 60); copy(0, 1); copy(1, 1); take(0, 1, 0); take(1, 1, 0)");
        x.tell("change(0, 0, 51); change(1, 1, 2); mark(1, 1); change(0, 1, 1); mark(0, 1); change(0, 0, 52)").due("count(5)", 6);
        int[][] states = {{50, 0, 60, 0, 2}, {51, 0, 60, 0, 2}, {51, 0, 60, 2, 2}, {51, 0, 60, 2, 1}, {51, 1, 60, 2, 1},
            {51, 1, 60, 2, 0}, {52, 1, 60, 2, 0}};
        changesAre(x, states[6]);
        for (int n = 5; n >= 0; n--) {
            changesAre(x.due("undo()", n).due("count(5)", n), states[n]);
        }
        for (int n = 1; n <= 6; n++) {
            changesAre(x.due("redo()", 6 - n).due("count(5)", n), states[n]);
        }
        x.refused("redo()", Told.STATE);
    }

    private static void changesAre(Told x, int[] due) {
        x.due("ofLine(0, 2)", due[0]).due("ofLine(0, 3)", due[1]).due("ofLine(1, 2)", due[2]).due("ofLine(1, 3)", due[3]);
        x.due("lacks(-1)", due[4]);
    }

    /** "(as long as no other came behind)": one of any sort. */
    private static void noOtherBehind() {
        String[] others = {"change(0, 0, 70)", "change(0, 1, 1)", "change(1, 0, 1)", "mark(0, 1)"};
        for (String other : others) {
            Told x = new Told("34").plain(0, 3).tell("line(1, 0, 50); line(2, 0, 60); copy(0, 1)");
            x.tell("change(0, 0, 51); change(0, 0, 52); change(0, 0, 53)").due("undo()", 2).due("undo()", 1);
            x.tell(other).due("count(5)", 2).refused("redo()", Told.STATE).due("undo()", 1).due("redo()", 0).refused("redo()", Told.STATE);
            x.due("undo()", 1).due("ofLine(0, 2)", 51).due("undo()", 0).due("ofLine(0, 2)", 50).due("redo()", 1).due("redo()", 0);
        }
    }

    /** "What is answered so changes nothing": a refused call is no other that came behind; nor are calls that are no CHANGES. */
    private static void refusedOnesAreNoOthers() {
        Told x = new Told("34").plain(0, 3).tell("line(1, 0, 50); line(2, 0, 60); copy(0, 1); change(0, 0, 51); undo()");
        String[] wrong = {"change(0, 0, 0)", "change(0, 0, 100)", "change(0, 1, 3)", "change(2, 0, 1)"};
        for (String w : wrong) {
            x.refused(w, -1);
        }
        x.refused("mark(1, 1)", Told.VOID).refused("mark(0, 2)", Told.VOID).refused("undo()", Told.STATE);
        x.tell("line(2, 1, 1); stone(1, 1, 1); take(0, 1, 0); months(3); copy(0, 1); name(0, 0, 1); restore(0)").due("count(5)", 0);
        x.due("redo()", 0).due("ofLine(0, 2)", 51);
    }

    /** A CHANGE is one only if it becomes another one. */
    private static void sameOnesAreNoOthers() {
        Told x = new Told("9").plain(0, 2).tell("line(1, 0, 150); copy(0, 1)");
        x.refused("change(0, 0, 50)", 50).refused("change(0, 1, 1)", 1).refused("mark(0, 0)", -1).due("count(5)", 0);
        x.tell("change(0, 0, 51); change(0, 1, 2); mark(0, 1)").refused("change(0, 0, 51)", 51).refused("change(0, 1, 2)", 2);
        x.refused("mark(0, 1)", 0).due("count(5)", 3).tell("undo(); undo(); undo()").refused("change(0, 0, 50)", 50);
        x.refused("change(0, 1, 1)", 1).refused("mark(0, 0)", -1).due("redo()", 2).due("redo()", 1).due("redo()", 0);
    }

    /** "40 at most are kept": 39, 40, and from the 41st on the oldest are forgotten. */
    private static void fortyAreKept() {
        for (int many = 39; many <= 43; many++) {
            Told x = new Told("33").plain(0, 2).tell("line(1, 0, 99)");
            for (int n = 1; n <= many; n++) {
                x.due("change(0, 0, " + n + ")", n == 1 ? 99 : n - 1).due("count(5)", Math.min(n, 40));
            }
            int back = Math.min(many, 40);
            for (int n = 1; n <= back; n++) {
                x.due("undo()", back - n).due("ofLine(0, 2)", many - n == 0 ? 99 : many - n);
            }
            x.refused("undo()", Told.STATE).due("ofLine(0, 2)", many <= 40 ? 99 : many - 40);
            for (int n = 1; n <= back; n++) {
                x.due("redo()", back - n).due("ofLine(0, 2)", many - back + n);
            }
            x.refused("redo()", Told.STATE).due("ofLine(0, 2)", many).due("count(5)", back);
        }
    }

    /** The oldest that are forgotten are of another LINE, SENSE or COPY than those that move up. */
    private static void fortyOfOthersAreKept() {
        Told x = new Told("33").plain(0, 4).tell("line(1, 0, 50); line(2, 0, 50); line(3, 0, 50); copy(0, 1); copy(0, 1); take(0, 1, 0)");
        x.tell("change(0, 0, 60); change(0, 1, 1); mark(0, 1)");
        for (int n = 1; n <= 19; n++) {
            x.tell("change(1, 0, " + n + "); change(2, 1, " + (1 + n % 2) + ")");
        }
        x.due("count(5)", 40).tell("mark(1, 1); change(2, 0, 77)").due("count(5)", 40);
        for (int n = 39; n >= 0; n--) {
            x.due("undo()", n);
        }
        x.refused("undo()", Told.STATE);
        int[][] due = {{60, 1}, {50, 0}, {50, 0}};
        for (int l = 0; l < 3; l++) {
            x.due("ofLine(" + l + ", 2)", due[l][0]).due("ofLine(" + l + ", 3)", due[l][1]);
        }
        x.due("lacks(-1)", 1).due("lacks(0)", 1);
    }

    /** Of forty some are UNDONE, others come behind, and it is forty at most again; of all sorts. */
    private static void fortyUndoneAndDoneAgain() {
        Told x = new Told("34").plain(0, 2).tell("line(1, 0, 99); copy(0, 1)");
        for (int n = 1; n <= 40; n++) {
            x.tell("change(0, 0, " + n + ")");
        }
        x.due("undo()", 39).due("undo()", 38).due("undo()", 37).due("change(0, 1, 1)", 0).due("count(5)", 38);
        x.due("mark(0, 1)", -1).due("change(0, 1, 2)", 1).due("count(5)", 40).refused("redo()", Told.STATE);
        x.due("mark(0, 0)", 0).due("count(5)", 40).due("undo()", 39).due("redo()", 0).refused("redo()", Told.STATE);
        for (int n = 39; n >= 0; n--) {
            x.due("undo()", n);
        }
        x.refused("undo()", Told.STATE).due("ofLine(0, 2)", 1).due("ofLine(0, 3)", 0).due("mark(0, 0)", -1).due("redo()", 39);
    }
}
