/** Promises 1 to 9: stones and lines. */
public final class StonesTest {
    private StonesTest() {
    }

    public static void main(String[] args) {
        aNewObject();
        stones();
        stonesAreFull();
        lines();
        linesAreFull();
        citings();
        citingsEnd();
        citingsAreFull();
        ofStone();
        farAndAbove();
        sums();
        sumsAtTheBound();
        says();
        ofLine();
        change();
        Check.end();
    }

    private static void aNewObject() {
        TakenBack x = new TakenBack();
        for (int what = 0; what < 7; what++) {
            Check.due("1: count(" + what + ")", x.count(what), 0);
        }
        Check.due("1: ofStone(0, 0)", x.ofStone(0, 0), -1);
        Check.due("1: ofLine(0, 0)", x.ofLine(0, 0), -1);
        Check.due("1: undo()", x.undo(), -5);
        Check.due("1: redo()", x.redo(), -5);
        Check.due("1: trace(0)", x.trace(0), -1);
        Check.due("1: taken(5, 0)", x.taken(5, 0), -11);
        Check.due("1: seed(1)", x.seed(1), 0);
    }

    private static void stones() {
        TakenBack x = new TakenBack();
        int[][] right = {{0, 9999, -9999}, {1, -999, 1}, {1, 999, 999}, {2, 5000, -1}, {3, -999, 0}, {3, 999, 799},
            {4, -5000, 5000}, {5, 1, -1}, {5, 9, 5000}};
        for (int n = 0; n < right.length; n++) {
            Check.due("2: stone of kind " + right[n][0], x.stone(right[n][0], right[n][1], right[n][2]), n);
            Check.due("2: its kind", x.ofStone(n, 0), right[n][0]);
        }
        int[][] wrong = {{-1, 0, 0}, {6, 1, 1}, {7, 1, 1}, {1, -1000, 1}, {1, 1000, 1}, {1, 0, 0}, {1, 0, 1000},
            {3, -1000, 0}, {3, 1000, 0}, {3, 0, -1}, {3, 0, 800}, {5, 0, 0}, {5, 10, 0}};
        for (int[] w : wrong) {
            Check.due("2: stone(" + w[0] + ", " + w[1] + ", " + w[2] + ")", x.stone(w[0], w[1], w[2]), -1);
        }
        Check.due("2: count(0)", x.count(0), right.length);
    }

    private static void stonesAreFull() {
        TakenBack x = new TakenBack();
        for (int n = 0; n < 64; n++) {
            Check.due("2: stone", x.stone(0, 0, 0), n);
        }
        Check.due("2: the 65th stone", x.stone(0, 0, 0), -3);
        Check.due("2: a wrong 65th stone", x.stone(6, 0, 0), -1);
        Check.due("2: count(0)", x.count(0), 64);
    }

    private static void lines() {
        TakenBack x = new TakenBack();
        x.stone(1, 1, 1);
        x.stone(0, 0, 0);
        x.stone(1, 1, 1);
        x.stone(2, 0, 0);
        Check.due("3: line(1, 0, 1)", x.line(1, 0, 1), 0);
        Check.due("3: line(3, 0, 299)", x.line(3, 0, 299), 1);
        Check.due("3: line(3, 2, 199)", x.line(3, 2, 199), 2);
        int[][] wrong = {{1, 0, 1}, {3, 0, 50}, {3, 3, 50}, {1, 3, 50}, {2, 0, 50}, {4, 0, 50}, {-1, 0, 50}, {3, 4, 50},
            {3, -1, 50}, {3, 1, 0}, {3, 1, 100}, {3, 1, 200}, {3, 1, 300}, {3, 1, 301}, {3, 1, -1}, {3, 1, -150},
            {3, 1, 2147483647}, {3, 1, -2147483648}};
        for (int[] w : wrong) {
            Check.due("3: line(" + w[0] + ", " + w[1] + ", " + w[2] + ")", x.line(w[0], w[1], w[2]), -1);
        }
        Check.due("3: count(1)", x.count(1), 3);
        Check.due("3: line(3, 1, 99)", x.line(3, 1, 99), 3);
        Check.due("3: its sense", x.ofLine(3, 3), 0);
        Check.due("3: its weight", x.ofLine(3, 2), 99);
        Check.due("3: sense of 299", x.ofLine(1, 3), 2);
        Check.due("3: weight of 299", x.ofLine(1, 2), 99);
    }

    /** Twenty stones and as many lines among them as may be: 190 and a few more. */
    private static TakenBack manyLines(int stones, int lines) {
        TakenBack x = new TakenBack();
        x.stone(1, 10, 999);
        for (int n = 1; n < stones; n++) {
            x.stone(0, 0, 0);
        }
        int come = 0;
        for (int s = 1; s < stones; s++) {
            for (int on = 0; on < s && come < lines; on++, come++) {
                Check.due("3: one line more", x.line(s, on, 99), come);
            }
        }
        return x;
    }

    private static void linesAreFull() {
        TakenBack x = manyLines(22, 200);
        Check.due("3: the 201st line", x.line(21, 20, 1), -3);
        Check.due("3: a wrong 201st line", x.line(21, 20, 100), -1);
        Check.due("3: one that is there", x.line(20, 0, 1), -1);
        Check.due("3: count(1)", x.count(1), 200);
    }

    private static void fill(TakenBack x, int place, int... bytes) {
        Check.due("38: row", x.row(place, 0, bytes.length), 1);
        for (int i = 0; i < bytes.length; i++) {
            Check.due("39: put", x.put(place, i, bytes[i]), 1);
        }
    }

    private static TakenBack six() {
        TakenBack x = new TakenBack();
        for (int n = 0; n < 5; n++) {
            x.stone(1, n, 10);
        }
        for (int n = 5; n < 12; n++) {
            x.stone(0, 0, 0);
        }
        return x;
    }

    private static void citings() {
        TakenBack x = six();
        fill(x, 0, 0, 1, 0, 1, 99, 1, 2, 50, 2, 3, 7, 0);
        Check.due("4: three of four", x.citings(5, 0, 0, 3), 3);
        Check.due("4: their lines", x.ofStone(5, 3), 3);
        Check.due("4: weight of the second", x.ofLine(1, 2), 99);
        Check.due("4: sense of the second", x.ofLine(1, 3), 1);
        Check.due("4: sense of the third", x.ofLine(2, 3), 2);
        Check.due("4: on which the third stands", x.ofLine(2, 1), 2);
        Check.due("4: from the fourth on", x.citings(5, 0, 9, 20), 1);
        Check.due("4: that are there", x.citings(5, 0, 0, 20), 0);
        Check.due("4: all", x.citings(6, 0, 0, 20), 4);
        int[][] wrong = {{12, 0, 0, 1}, {-1, 0, 0, 1}, {0, 0, 0, 1}, {7, -1, 0, 1}, {7, 6, 0, 1}, {7, 0, 0, 0},
            {7, 0, 0, 21}, {7, 0, 0, -1}};
        for (int[] w : wrong) {
            Check.due("4: citings(" + w[0] + ", " + w[1] + ", " + w[2] + ", " + w[3] + ")",
                x.citings(w[0], w[1], w[2], w[3]), -1);
        }
        x.row(1, 1, 9);
        x.keep(2, 3);
        Check.due("4: from shorts", x.citings(7, 1, 0, 1), -12);
        Check.due("4: from a stone", x.citings(7, 2, 0, 1), -12);
        Check.due("4: from nothing", x.citings(7, 3, 0, 1), 0);
        Check.due("4: BAD ahead of -12", x.citings(7, 1, 0, 21), -1);
        Check.due("4: from -1 on", x.citings(7, 0, -1, 1), 0);
        Check.due("4: from -3 on", x.citings(7, 0, -3, 2), 0);
        Check.due("4: from the least on", x.citings(7, 0, -2147483648, 1), 0);
        Check.due("4: from the end on", x.citings(7, 0, 12, 1), 0);
        Check.due("4: from the greatest on", x.citings(7, 0, 2147483647, 20), 0);
        Check.due("4: no line of these", x.ofStone(7, 3), 0);
    }

    private static void citingsEnd() {
        TakenBack x = six();
        fill(x, 0, 0, 1, 0, 1);
        Check.due("4: a weight is missing", x.citings(5, 0, 0, 5), 2);
        Check.due("4: its weight", x.ofLine(1, 2), 1);
        Check.due("4: its sense", x.ofLine(1, 3), 2);
        fill(x, 0, 1, 40);
        Check.due("4: a sense is missing", x.citings(6, 0, 0, 1), 1);
        Check.due("4: weight 1 then", x.ofLine(2, 2), 1);
        Check.due("4: sense 2 then", x.ofLine(2, 3), 2);
        fill(x, 0, 0, 40, 3, 1, 40, 1);
        Check.due("4: a sense not so", x.citings(7, 0, 0, 2), 1);
        Check.due("4: it stands on 0", x.ofLine(3, 1), 0);
        Check.due("4: with weight 1", x.ofLine(3, 2), 1);
        fill(x, 0, 0, 100, 0);
        Check.due("4: a weight not so", x.citings(8, 0, 0, 2), 1);
        Check.due("4: sense 2 for it", x.ofLine(4, 3), 2);
        fill(x, 0, 0, 5, 0, 9, 5, 0, 1, 5, 0);
        Check.due("4: no earlier stone ends it", x.citings(9, 0, 0, 3), 1);
        fill(x, 0, 255, 5, 0);
        Check.due("4: a stone below 0 ends it", x.citings(9, 0, 0, 1), 0);
        fill(x, 0, 3, 5, 0, 3, 6, 0, 4, 7, 0);
        Check.due("4: the same twice ends it", x.citings(10, 0, 0, 3), 1);
        fill(x, 0, 2, 0, 0);
        Check.due("4: as many as asked", x.citings(10, 0, 0, 1), 1);
        Check.due("4: what is short ends it", x.ofStone(10, 3), 2);
    }

    private static void citingsAreFull() {
        TakenBack x = manyLines(22, 198);
        fill(x, 0, 18, 1, 0, 19, 1, 0, 20, 1, 0);
        Check.due("4: as many as there is room for", x.citings(21, 0, 0, 3), 2);
        fill(x, 1, 20, 0, 0);
        Check.due("4: no room for a short one", x.citings(21, 1, 0, 1), 0);
        Check.due("4: count(1)", x.count(1), 200);
    }

    private static void ofStone() {
        TakenBack x = new TakenBack();
        x.stone(1, 5, 7);
        x.months(4);
        x.stone(5, 2, 0);
        x.line(1, 0, 10);
        Check.due("5: MONTH of the first", x.ofStone(0, 1), 0);
        Check.due("5: MONTH", x.ofStone(1, 1), 4);
        Check.due("5: COUNTS of a FIRST", x.ofStone(0, 2), 140);
        Check.due("5: COUNTS", x.ofStone(1, 2), 14);
        Check.due("5: LINES", x.ofStone(1, 3), 1);
        Check.due("5: not TAKEN", x.ofStone(0, 4), -1);
        Check.due("5: no WAY", x.ofStone(0, 5), -1);
        x.take(0, 2, 0);
        Check.due("5: TAKEN since", x.ofStone(0, 4), 4);
        Check.due("5: WAY", x.ofStone(0, 5), 2);
        Check.due("5: COUNTS of one in doubt", x.ofStone(0, 2), 70);
        Check.due("5: STILL", x.ofStone(1, 0), 6);
        Check.due("5: not HEARD", x.ofStone(1, 6), 0);
        Check.due("5: of no stone", x.ofStone(2, 0), -1);
        Check.due("5: of stone -1", x.ofStone(-1, 0), -1);
        Check.due("5: what 9", x.ofStone(0, 9), -1);
        Check.due("5: what -1", x.ofStone(0, -1), -1);
    }

    private static void farAndAbove() {
        TakenBack x = new TakenBack();
        for (int n = 0; n < 7; n++) {
            x.stone(0, 0, 0);
        }
        x.line(1, 0, 1);
        x.line(2, 0, 1);
        x.line(2, 1, 1);
        x.line(4, 2, 1);
        x.line(5, 0, 1);
        x.line(6, 3, 1);
        Check.due("5: FAR by the longest way", x.ofStone(0, 7), 3);
        Check.due("5: FAR of one between", x.ofStone(1, 7), 2);
        Check.due("5: FAR of one on top", x.ofStone(4, 7), 0);
        Check.due("5: how many stand on it", x.ofStone(0, 8), 4);
        Check.due("5: how many stand on 1", x.ofStone(1, 8), 2);
        Check.due("5: how many stand on 3", x.ofStone(3, 8), 1);
        Check.due("5: none", x.ofStone(6, 8), 0);
    }

    private static void sums() {
        TakenBack x = new TakenBack();
        x.stone(1, 3, 1);
        x.stone(1, -7, 2);
        x.stone(2, 0, 0);
        x.stone(2, 0, 0);
        x.stone(4, 0, 0);
        Check.due("6: WORTH of a FIRST", x.worth(1), -7000);
        Check.due("6: without lines none", x.worth(2), -2000000000);
        Check.due("5: without lines 0", x.ofStone(2, 2), 0);
        x.line(2, 0, 33);
        x.line(2, 1, 33);
        // 20 * 33 / 100 = 6 and 40 * 33 / 100 = 13: (18000 - 91000) / 19 = -3842.1
        Check.due("5: parts are cut one by one", x.ofStone(2, 2), 19);
        Check.due("6: WORTH goes toward the lesser", x.worth(2), -3843);
        x.line(3, 0, 133);
        x.line(3, 1, 233);
        // (-18000 - 91000) / 19 = -5736.8
        Check.due("6: against, and unread as for", x.worth(3), -5737);
        x.line(4, 2, 3);
        Check.due("5: what is cut to 0", x.ofStone(4, 2), 0);
        Check.due("6: has no WORTH", x.worth(4), -2000000000);
        x.take(2, 1, 0);
        Check.due("5: a LIE counts 0", x.ofStone(2, 2), 0);
        Check.due("6: WORTH is that ahead of TAKEN", x.worth(2), -3843);
        Check.due("6: of no stone", x.worth(5), -2000000000);
        Check.due("6: of stone -1", x.worth(-1), -2000000000);
    }

    private static void sumsAtTheBound() {
        TakenBack x = new TakenBack();
        x.stone(1, 999, 999);
        for (int n = 1; n < 20; n++) {
            x.stone(2, 0, 0);
            for (int on = 0; on < n; on++) {
                x.line(n, on, 99);
            }
        }
        Check.due("5: COUNTS at most", x.ofStone(19, 2), 1000000000);
        Check.due("6: WORTH by the parts", x.worth(19), 999000);
        x.take(19, 0, 1);
        Check.due("5: a SLIP of these", x.ofStone(19, 2), 900000000);
        x.take(19, 0, 9);
        Check.due("5: the greatest SLIP", x.ofStone(19, 2), 100000000);
        x.take(19, 2, 0);
        Check.due("5: a DOUBT of these", x.ofStone(19, 2), 500000000);
    }

    private static void says() {
        TakenBack x = new TakenBack();
        x.stone(1, 5, 5);
        x.stone(3, 5, 0);
        x.stone(3, 6, 0);
        x.stone(3, -999, 0);
        x.stone(2, 0, 0);
        x.line(1, 0, 50);
        x.line(2, 0, 50);
        Check.due("7: at the BAR", x.says(1), 1);
        Check.due("7: below the BAR", x.says(2), 0);
        Check.due("7: without COUNTS", x.says(3), 0);
        Check.due("7: of a SUMMED", x.says(4), -1);
        Check.due("7: of a FIRST", x.says(0), -1);
        Check.due("7: of no stone", x.says(5), -1);
        Check.due("7: of stone -1", x.says(-1), -1);
        x.take(1, 0, 5);
        Check.due("7: a SLIP leaves COUNTS", x.says(1), 1);
        x.take(1, 1, 0);
        Check.due("7: a LIE says NO", x.says(1), 0);
    }

    private static void ofLine() {
        TakenBack x = new TakenBack();
        x.stone(1, 5, 5);
        x.stone(5, 5, 5);
        x.line(1, 0, 142);
        int[] due = {1, 0, 42, 1, 0};
        for (int what = 0; what < 5; what++) {
            Check.due("8: ofLine(0, " + what + ")", x.ofLine(0, what), due[what]);
        }
        Check.due("8: what 5", x.ofLine(0, 5), -1);
        Check.due("8: what -1", x.ofLine(0, -1), -1);
        Check.due("8: no line", x.ofLine(1, 0), -1);
        Check.due("8: line -1", x.ofLine(-1, 0), -1);
        x.take(0, 1, 0);
        for (int n = 0; n < 20; n++) {
            x.months(24);
        }
        Check.due("8: DROPPED", x.ofLine(0, 4), 1);
        Check.due("5: it DROPPED", x.ofStone(1, 6), 1);
        Check.due("5: its LINES, a DROPPED one too", x.ofStone(1, 3), 1);
        Check.due("5: HELD again", x.ofStone(1, 0), 5);
        Check.due("3: one that is DROPPED is there still", x.line(1, 0, 5), -1);
        Check.due("5: a DROPPED one leads no more", x.ofStone(0, 8), 0);
        Check.due("5: nor far", x.ofStone(0, 7), 0);
        x.restore(0);
        Check.due("5: nor counts", x.ofStone(1, 2), 0);
        Check.due("32: nor is in a SPAN", x.span(0, 3), 0);
    }

    private static void change() {
        TakenBack x = new TakenBack();
        x.stone(1, 5, 5);
        x.stone(2, 0, 0);
        x.line(1, 0, 50);
        Check.due("9: WEIGHT", x.change(0, 0, 99), 50);
        Check.due("9: WEIGHT again", x.change(0, 0, 1), 99);
        Check.due("9: SENSE", x.change(0, 1, 2), 0);
        Check.due("9: SENSE again", x.change(0, 1, 0), 2);
        int[][] wrong = {{0, 0, 0}, {0, 0, 100}, {0, 1, -1}, {0, 1, 3}, {0, 2, 1}, {0, -1, 1}, {1, 0, 1}, {-1, 0, 1}};
        for (int[] w : wrong) {
            Check.due("9: change(" + w[0] + ", " + w[1] + ", " + w[2] + ")", x.change(w[0], w[1], w[2]), -1);
        }
        Check.due("9: changes that may be UNDONE", x.count(5), 4);
        Check.due("8: WEIGHT then", x.ofLine(0, 2), 1);
        Check.due("8: SENSE then", x.ofLine(0, 3), 0);
        Check.due("9: the WEIGHT that is there", x.change(0, 0, 1), 1);
        Check.due("9: the SENSE that is there", x.change(0, 1, 0), 0);
        Check.due("9: these are no CHANGES", x.count(5), 4);
    }
}
