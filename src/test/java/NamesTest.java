/** Promises 28 to 34: names, spans, and changes undone. */
public final class NamesTest {
    private NamesTest() {
    }

    public static void main(String[] args) {
        names();
        shares();
        hands();
        handsInOrder();
        fair();
        span();
        undoAndRedo();
        whatChangesNothing();
        whatChangesNothingOfForty();
        fortyAreKept();
        fortyOfAllSorts();
        Check.end();
    }

    private static void names() {
        TakenBack x = new TakenBack();
        x.stone(0, 0, 0);
        for (int n = 0; n < 20; n++) {
            Check.due("28: a name more", x.name(0, n, 1 + n % 9), n + 1);
        }
        Check.due("28: one that is there", x.name(0, 7, 9), 20);
        int[][] wrong = {{1, 0, 1}, {-1, 0, 1}, {0, -1, 1}, {0, 20, 1}, {0, 0, 0}, {0, 0, 10}};
        for (int[] w : wrong) {
            Check.due("28: name(" + w[0] + ", " + w[1] + ", " + w[2] + ")", x.name(w[0], w[1], w[2]), -1);
        }
    }

    private static void shares() {
        TakenBack x = new TakenBack();
        x.stone(0, 0, 0);
        x.stone(1, 1, 1);
        x.name(0, 19, 1);
        Check.due("29: alone", x.share(0, 19), 1000);
        x.name(0, 0, 2);
        Check.due("29: cut", x.share(0, 19), 333);
        Check.due("29: cut", x.share(0, 0), 666);
        x.name(0, 0, 9);
        Check.due("29: told again", x.share(0, 0), 900);
        Check.due("29: none there", x.share(0, 1), -1);
        Check.due("29: none at all", x.share(1, 0), -1);
        Check.due("29: no stone", x.share(2, 0), -1);
        Check.due("29: stone -1", x.share(-1, 0), -1);
        Check.due("29: name 20", x.share(0, 20), -1);
        Check.due("29: name -1", x.share(0, -1), -1);
    }

    private static void hands() {
        TakenBack x = new TakenBack();
        for (int n = 0; n < 5; n++) {
            x.stone(1, 1, 1);
        }
        x.stone(4, 0, 0);
        x.name(0, 1, 1);
        x.name(5, 1, 1);
        x.name(5, 2, 1);
        x.name(1, 2, 1);
        x.name(1, 3, 1);
        x.name(2, 3, 1);
        x.name(3, 3, 1);
        x.name(3, 1, 1);
        // 1 is with 2 (on a SAID one) and with 3
        Check.due("30: how many", x.hands(1, -1), 4);
        for (int i = 0; i < 4; i++) {
            Check.due("30: the " + i + "-th", x.hands(1, i), i);
        }
        Check.due("30: no fifth", x.hands(1, 4), -1);
        Check.due("30: i -2", x.hands(1, -2), -1);
        Check.due("30: i the greatest", x.hands(1, 2147483647), -1);
        Check.due("30: of 2", x.hands(2, -1), 4);
        Check.due("30: of one on no stone", x.hands(4, -1), 0);
        Check.due("30: none of these", x.hands(4, 0), -1);
        Check.due("30: name 20", x.hands(20, -1), -1);
        Check.due("30: name -1", x.hands(-1, -1), -1);
        x.take(3, 1, 0);
        Check.due("30: not the TAKEN one, but its names are together", x.hands(1, -1), 3);
        Check.due("30: the last", x.hands(1, 2), 2);
        x.name(4, 19, 1);
        Check.due("30: of the last name", x.hands(19, 0), 4);
        Check.due("30: alone", x.hands(19, -1), 1);
    }

    private static void handsInOrder() {
        TakenBack x = new TakenBack();
        for (int n = 0; n < 4; n++) {
            x.stone(1, 1, 1);
            x.name(n, 0, 1);
        }
        for (int n = 4; n < 8; n++) {
            x.stone(0, 0, 0);
        }
        x.line(4, 1, 1);
        x.line(5, 4, 1);
        x.line(6, 3, 1);
        x.line(7, 3, 1);
        x.line(7, 2, 1);
        // on 0 none, on 1 two (along all), on 2 one, on 3 two
        int[] due = {1, 3, 2, 0};
        for (int i = 0; i < 4; i++) {
            Check.due("30: the most first, " + i, x.hands(0, i), due[i]);
        }
        x.line(6, 0, 1);
        Check.due("30: of like ones the least", x.hands(0, 2), 0);
        Check.due("30: then", x.hands(0, 3), 2);
    }

    private static void fair() {
        TakenBack x = new TakenBack();
        x.stone(1, 1, 1);
        x.stone(0, 1, 1);
        x.name(0, 0, 1);
        x.name(0, 1, 2);
        x.name(1, 0, 1);
        x.name(1, 19, 6);
        Check.due("31: none is TAKEN", x.fair(0), 0);
        x.take(0, 0, 1);
        Check.due("31: of one", x.fair(0), 333);
        x.take(1, 2, 1);
        Check.due("31: of both", x.fair(0), 333 + 142);
        Check.due("31: of another name", x.fair(1), 666);
        Check.due("31: of the last name", x.fair(19), 857);
        Check.due("31: of one on no stone", x.fair(2), 0);
        Check.due("31: name 20", x.fair(20), -1);
        Check.due("31: name -1", x.fair(-1), -1);
        x.restore(0);
        Check.due("31: of the other", x.fair(0), 142);
    }

    private static void span() {
        TakenBack x = new TakenBack();
        x.stone(1, 1, 1);
        for (int n = 1; n < 8; n++) {
            x.stone(0, 0, 0);
            x.line(n, 0, n < 2 ? 1 : n < 4 ? 101 : 201);
        }
        int[] due = {1, 5, 4, 2};
        for (int what = 0; what < 4; what++) {
            Check.due("32: span(0, " + what + ")", x.span(0, what), due[what]);
        }
        x.change(6, 1, 0);
        x.change(5, 1, 1);
        int[] then = {2, 4, 2, 3};
        for (int what = 0; what < 4; what++) {
            Check.due("32: READ, span(0, " + what + ")", x.span(0, what), then[what]);
        }
        Check.due("33: undone", x.undo(), 1);
        Check.due("32: UNREAD again", x.span(0, 2), 3);
        x.line(7, 6, 1);
        Check.due("32: of another one", x.span(6, 0), 1);
        Check.due("32: what 4", x.span(0, 4), -1);
        Check.due("32: what -1", x.span(0, -1), -1);
        Check.due("32: no stone", x.span(8, 0), -1);
        Check.due("32: stone -1", x.span(-1, 0), -1);
    }

    private static void undoAndRedo() {
        TakenBack x = new TakenBack();
        x.stone(1, 1, 1);
        x.stone(2, 1, 1);
        x.line(1, 0, 10);
        x.copy(0, 1);
        Check.due("33: none", x.undo(), -5);
        Check.due("34: none", x.redo(), -5);
        x.change(0, 0, 20);
        x.change(0, 1, 2);
        x.months(3);
        x.mark(0, 1);
        Check.due("33: the MARK", x.undo(), 2);
        Check.due("33: the SENSE", x.undo(), 1);
        Check.due("8: SENSE", x.ofLine(0, 3), 0);
        Check.due("8: WEIGHT", x.ofLine(0, 2), 20);
        Check.due("33: the WEIGHT", x.undo(), 0);
        Check.due("8: WEIGHT", x.ofLine(0, 2), 10);
        Check.due("33: none", x.undo(), -5);
        x.months(4);
        Check.due("34: the WEIGHT", x.redo(), 2);
        Check.due("8: WEIGHT", x.ofLine(0, 2), 20);
        Check.due("34: the SENSE", x.redo(), 1);
        Check.due("8: SENSE", x.ofLine(0, 3), 2);
        Check.due("34: the MARK", x.redo(), 0);
        Check.due("34: none", x.redo(), -5);
        x.undo();
        x.undo();
        Check.due("24: no MARK before, none now: no CHANGE", x.mark(0, 0), -1);
        Check.due("34: so it may be done again", x.redo(), 1);
        x.change(0, 0, 30);
        Check.due("34: another one came behind", x.redo(), -5);
        Check.due("43: that may be UNDONE", x.count(5), 3);
        x.undo();
        x.redo();
        Check.due("24: as it was never marked", x.mark(0, 1), -1);
        x.undo();
        Check.due("34: the MARK of 7", x.redo(), 0);
        Check.due("24: since 7", x.mark(0, 1), 7);
    }

    private static void whatChangesNothing() {
        TakenBack x = new TakenBack();
        x.stone(1, 1, 1);
        x.stone(2, 1, 1);
        x.line(1, 0, 110);
        Check.due("9: the WEIGHT that is there", x.change(0, 0, 10), 10);
        Check.due("9: the SENSE that is there", x.change(0, 1, 1), 1);
        Check.due("43: no CHANGE", x.count(5), 0);
        Check.due("33: none", x.undo(), -5);
        x.change(0, 0, 20);
        x.change(0, 1, 2);
        x.undo();
        x.undo();
        Check.due("9: the WEIGHT put back", x.change(0, 0, 10), 10);
        Check.due("9: the SENSE put back", x.change(0, 1, 1), 1);
        Check.due("34: no other came behind", x.redo(), 1);
        Check.due("9: the WEIGHT done again", x.change(0, 0, 20), 20);
        Check.due("34: nor then", x.redo(), 0);
        Check.due("9: the SENSE done again", x.change(0, 1, 2), 2);
        Check.due("43: two CHANGES", x.count(5), 2);
        Check.due("33: the SENSE", x.undo(), 1);
        Check.due("8: SENSE", x.ofLine(0, 3), 1);
        Check.due("9: another SENSE", x.change(0, 1, 0), 1);
        Check.due("34: another one came behind", x.redo(), -5);
        Check.due("43: two CHANGES", x.count(5), 2);
    }

    private static void whatChangesNothingOfForty() {
        TakenBack x = new TakenBack();
        x.stone(1, 1, 1);
        x.stone(2, 1, 1);
        x.line(1, 0, 99);
        for (int n = 1; n <= 40; n++) {
            x.change(0, 0, n);
            x.change(0, 0, n);
            x.change(0, 1, 0);
            Check.due("43: that may be UNDONE", x.count(5), n);
        }
        for (int n = 39; n >= 0; n--) {
            Check.due("33: all forty are kept", x.undo(), n);
        }
        Check.due("8: WEIGHT", x.ofLine(0, 2), 99);
        Check.due("33: none", x.undo(), -5);
    }

    private static void fortyAreKept() {
        TakenBack x = new TakenBack();
        x.stone(1, 1, 1);
        x.stone(2, 1, 1);
        x.line(1, 0, 99);
        for (int n = 1; n <= 43; n++) {
            x.change(0, 0, n);
            Check.due("43: that may be UNDONE", x.count(5), Math.min(n, 40));
        }
        for (int n = 42; n >= 3; n--) {
            Check.due("33: the latest first", x.undo(), n - 3);
            Check.due("8: WEIGHT", x.ofLine(0, 2), n);
        }
        Check.due("33: no more than 40", x.undo(), -5);
        for (int n = 4; n <= 43; n++) {
            Check.due("34: forty again", x.redo(), 43 - n);
            Check.due("8: WEIGHT", x.ofLine(0, 2), n);
        }
        Check.due("34: none", x.redo(), -5);
        x.undo();
        x.change(0, 0, 50);
        Check.due("43: forty still", x.count(5), 40);
        Check.due("34: none then", x.redo(), -5);
    }

    private static void fortyOfAllSorts() {
        TakenBack x = new TakenBack();
        x.stone(1, 1, 1);
        x.stone(2, 1, 1);
        x.stone(2, 1, 1);
        x.line(1, 0, 1);
        x.line(2, 0, 1);
        x.copy(0, 1);
        x.copy(0, 1);
        x.months(1);
        for (int n = 0; n < 15; n++) {
            x.change(0, 0, 2 + n);
            x.change(1, 1, 1 + n % 2);
            x.mark(1, (n + 1) % 2);
        }
        // five are forgotten: of WEIGHTS two, of SENSES two, of MARKS one
        for (int n = 0; n < 40; n++) {
            Check.due("33: all sorts", x.undo(), 39 - n);
        }
        Check.due("33: none", x.undo(), -5);
        Check.due("8: WEIGHT", x.ofLine(0, 2), 3);
        Check.due("8: SENSE", x.ofLine(1, 3), 2);
        Check.due("8: of the other line", x.ofLine(1, 2), 1);
        Check.due("8: of the first line", x.ofLine(0, 3), 0);
        Check.due("24: MARK", x.mark(1, 1), 1);
        Check.due("24: of the other copy", x.mark(0, 0), -1);
    }
}
