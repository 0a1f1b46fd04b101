/** Promises 35 to 43: acts, places, counts. */
public final class ActsTest {
    private static final long NONE = Long.MIN_VALUE;

    private ActsTest() {
    }

    public static void main(String[] args) {
        acts();
        traces();
        noActs();
        keep();
        rows();
        put();
        narrow();
        element();
        shift();
        shiftIsRefused();
        taken();
        count();
        Check.end();
    }

    /** 0 STONE, 1 FIRST, 2 SUMMED (1 line), 3 RULED (2), 4 SAID, 5 HELD, 6 STILL (it stands on 1, TAKEN). */
    private static TakenBack ofAllKinds() {
        TakenBack x = new TakenBack();
        x.stone(0, 0, 0);
        x.stone(1, 1, 1);
        x.stone(2, 0, 0);
        x.stone(3, 0, 0);
        x.stone(4, 0, 0);
        x.stone(5, 1, 0);
        x.stone(5, 2, 0);
        x.line(2, 1, 10);
        x.line(3, 2, 10);
        x.line(3, 1, 10);
        x.line(6, 1, 10);
        x.take(1, 1, 0);
        return x;
    }

    private static void acts() {
        TakenBack x = ofAllKinds();
        int[][] due = {
            {7, 14, 7, 13}, {8, 19, 6, 19}, {10, 20, 5, 17}, {12, 24, 12, 23}, {11, -22, 3, -27}, {12, -24, -5, -21},
            {14, -28, -16, -24}};
        for (int s = 0; s < 7; s++) {
            for (int act = 0; act < 4; act++) {
                Check.due("35: act(" + s + ", " + act + ", 7)", x.act(s, act, 7), due[s][act]);
            }
        }
        Check.due("35: x wraps", x.act(6, 0, 2147483647), -2147483648 + 6);
        Check.due("35: x wraps twice", x.act(2, 1, 1073741824), -2147483648 + 6);
        Check.due("35: tells of a RULED with 4", x.act(3, 3, 4), 12 ^ 5);
        x.restore(1);
        Check.due("35: as a HELD one", x.act(6, 2, 7), 1 - 8);
        Check.due("35: as a HELD one stands", x.act(6, 0, 7), 13);
    }

    private static void trace(TakenBack x, String call, int... due) {
        Check.due("43: bodies of " + call, x.count(6), due.length);
        for (int i = 0; i < due.length; i++) {
            Check.due("36: " + i + " of " + call, x.trace(i), due[i]);
        }
        Check.due("36: behind the last", x.trace(due.length), -1);
        Check.due("36: -1", x.trace(-1), -1);
    }

    private static void traces() {
        TakenBack x = ofAllKinds();
        x.act(0, 3, 1);
        trace(x, "tells of a STONE", 2, 10, 1, 11);
        x.act(1, 3, 1);
        trace(x, "tells of a FIRST", 2, 20, 10, 1, 11);
        x.act(2, 1, 1);
        trace(x, "falls of a SUMMED", 10, 30, 1);
        x.act(3, 3, 1);
        trace(x, "tells of a RULED", 41, 2, 10, 30, 1, 40, 11);
        x.act(4, 3, 1);
        trace(x, "tells of a SAID", 2, 50, 10, 1, 11);
        x.act(5, 3, 1);
        trace(x, "tells of a HELD", 2, 50, 10, 1, 60, 11, 1);
        x.act(6, 3, 1);
        trace(x, "tells of a STILL", 2, 50, 10, 70, 1, 71, 60, 11, 70, 1);
        x.act(6, 0, 1);
        trace(x, "stands of a STILL", 70, 1);
    }

    private static void noActs() {
        TakenBack x = ofAllKinds();
        int[][] wrong = {{7, 0}, {-1, 0}, {0, 4}, {0, -1}};
        for (int[] w : wrong) {
            x.act(6, 3, 1);
            Check.due("35: act(" + w[0] + ", " + w[1] + ", 9)", x.act(w[0], w[1], 9), 0);
            trace(x, "none");
        }
    }

    private static void keep() {
        TakenBack x = ofAllKinds();
        Check.due("37: a STONE", x.keep(0, 6), 1);
        Check.due("37: in the last place", x.keep(5, 0), 1);
        int[][] wrong = {{-1, 0}, {6, 0}, {0, 7}, {0, -2}};
        for (int[] w : wrong) {
            Check.due("37: keep(" + w[0] + ", " + w[1] + ")", x.keep(w[0], w[1]), -1);
        }
        Check.due("42: it is there", x.taken(0, 6), 6);
        Check.due("37: nothing", x.keep(0, -1), 1);
        Check.due("42: nothing is there", x.taken(0, 6), -11);
        x.row(1, 2, 3);
        Check.due("37: a STONE in place of a ROW", x.keep(1, 1), 1);
        Check.due("40: no ROW", x.element(1, 0), NONE);
        Check.due("39: no ROW", x.put(1, 0, 1), -12);
        Check.due("38: a ROW in place of a STONE", x.row(1, 2, 3), 1);
        Check.due("42: no STONE", x.taken(1, 0), -12);
    }

    private static void rows() {
        TakenBack x = new TakenBack();
        for (int sort = 0; sort < 5; sort++) {
            Check.due("38: sort " + sort, x.row(sort, sort, 60), 1);
            Check.due("39: the last", x.put(sort, 59, 1), 1);
            Check.due("39: behind the last", x.put(sort, 60, 1), -13);
            Check.due("40: 0 at first", x.element(sort, 58), 0);
        }
        int[][] wrong = {{-1, 0, 1}, {6, 0, 1}, {0, -1, 1}, {0, 5, 1}, {0, 0, 61}, {0, 5, -1}, {6, 0, -1}};
        for (int[] w : wrong) {
            Check.due("38: row(" + w[0] + ", " + w[1] + ", " + w[2] + ")", x.row(w[0], w[1], w[2]), -1);
        }
        Check.due("38: a size below 0", x.row(0, 0, -1), -14);
        Check.due("38: the least size", x.row(0, 0, -2147483648), -14);
        Check.due("40: it is as it was", x.element(0, 59), 1);
        Check.due("38: anew", x.row(0, 3, 60), 1);
        Check.due("40: all 0 again", x.element(0, 59), 0);
        Check.due("38: of none", x.row(0, 3, 0), 1);
        Check.due("39: none is there", x.put(0, 0, 1), -13);
    }

    private static void put() {
        TakenBack x = ofAllKinds();
        x.row(0, 3, 4);
        x.keep(1, 0);
        Check.due("39: an element", x.put(0, 3, 5), 1);
        Check.due("40: it", x.element(0, 3), 5);
        Check.due("40: not the one ahead", x.element(0, 2), 0);
        int[][] refused = {{-1, 0, -1}, {6, 0, -1}, {2, 0, -11}, {2, -5, -11}, {1, 0, -12}, {1, -5, -12}, {0, 4, -13},
            {0, -1, -13}, {0, 2147483647, -13}, {0, -2147483648, -13}};
        for (int[] r : refused) {
            Check.due("39: put(" + r[0] + ", " + r[1] + ", 5)", x.put(r[0], r[1], 5), r[2]);
        }
    }

    private static void narrow() {
        TakenBack x = new TakenBack();
        long[] put = {0, 1, -1, 127, 128, 255, 256, 32768, 65536, 2147483648L, 4294967296L, Long.MAX_VALUE, Long.MIN_VALUE};
        for (int sort = 0; sort < 5; sort++) {
            x.row(sort, sort, put.length);
            for (int i = 0; i < put.length; i++) {
                x.put(sort, i, put[i]);
            }
        }
        for (int i = 0; i < put.length; i++) {
            long v = put[i];
            Check.due("40: byte of " + v, x.element(0, i), (byte) v);
            Check.due("40: short of " + v, x.element(1, i), (short) v);
            Check.due("40: int of " + v, x.element(2, i), (int) v);
            Check.due("40: long of " + v, x.element(3, i), v);
            Check.due("40: boolean of " + v, x.element(4, i), v == 0 ? 0 : 1);
        }
    }

    private static void element() {
        TakenBack x = ofAllKinds();
        x.row(0, 0, 2);
        x.put(0, 0, -12);
        x.keep(1, 0);
        Check.due("40: an element of -12", x.element(0, 0), -12);
        int[][] refused = {{-1, 0}, {6, 0}, {2, 0}, {1, 0}, {0, 2}, {0, -1}, {0, 2147483647}};
        for (int[] r : refused) {
            Check.due("40: element(" + r[0] + ", " + r[1] + ")", x.element(r[0], r[1]), NONE);
        }
    }

    private static void row(TakenBack x, int place, int... due) {
        for (int i = 0; i < due.length; i++) {
            Check.due("40: element(" + place + ", " + i + ")", x.element(place, i), due[i]);
        }
    }

    private static void shift() {
        TakenBack x = new TakenBack();
        x.row(0, 1, 6);
        x.row(1, 1, 4);
        for (int i = 0; i < 6; i++) {
            x.put(0, i, i + 1);
        }
        Check.due("41: to another one", x.shift(0, 2, 1, 1, 3), 3);
        row(x, 1, 0, 3, 4, 5);
        row(x, 0, 1, 2, 3, 4, 5, 6);
        Check.due("41: upwards in one", x.shift(0, 0, 0, 2, 4), 4);
        row(x, 0, 1, 2, 1, 2, 3, 4);
        Check.due("41: downwards in one", x.shift(0, 1, 0, 0, 5), 5);
        row(x, 0, 2, 1, 2, 3, 4, 4);
        Check.due("41: none", x.shift(0, 6, 1, 4, 0), 0);
        Check.due("41: on itself", x.shift(1, 0, 1, 0, 4), 4);
        row(x, 1, 0, 3, 4, 5);
        Check.due("41: all of a shorter one", x.shift(1, 0, 0, 2, 4), 4);
        row(x, 0, 2, 1, 0, 3, 4, 5);
    }

    private static void shiftIsRefused() {
        TakenBack x = ofAllKinds();
        x.row(0, 1, 6);
        x.row(1, 1, 4);
        x.row(2, 2, 4);
        x.keep(3, 0);
        int[][] refused = {{-1, 0, 0, 0, 1, -1}, {6, 0, 0, 0, 1, -1}, {0, 0, -1, 0, 1, -1}, {0, 0, 6, 0, 1, -1},
            {4, 0, 6, 0, 1, -1}, {4, 0, 0, 0, 1, -11}, {0, 0, 4, 0, 1, -11}, {3, 0, 4, 0, 1, -11}, {4, -1, 3, 0, -1, -11},
            {3, 0, 0, 0, 1, -12}, {0, 0, 3, 0, 1, -12}, {3, 0, 3, 0, 1, -12}, {0, 0, 2, 0, 1, -12}, {0, -1, 2, 0, 1, -12},
            {0, 0, 1, 0, -1, -13}, {0, -1, 1, 0, 1, -13}, {0, 0, 1, -1, 1, -13}, {0, 0, 1, 0, 5, -13}, {0, 3, 1, 0, 4, -13},
            {1, 0, 0, 3, 4, -13}, {0, 7, 1, 0, 0, -13}, {0, 0, 1, 5, 0, -13}, {0, 2147483647, 1, 0, 1, -13},
            {0, 1, 1, 0, 2147483647, -13}, {0, 0, 1, 2147483647, 1, -13}};
        for (int[] r : refused) {
            Check.due("41: shift(" + r[0] + ", " + r[1] + ", " + r[2] + ", " + r[3] + ", " + r[4] + ")",
                x.shift(r[0], r[1], r[2], r[3], r[4]), r[5]);
        }
    }

    private static void taken() {
        TakenBack x = ofAllKinds();
        int[][] under = {{0}, {0, 1}, {0, 2}, {0, 2, 3}, {0, 4}, {0, 4, 5}, {0, 4, 5, 6}};
        for (int s = 0; s < 7; s++) {
            x.keep(0, s);
            for (int k = 0; k < 7; k++) {
                int due = -12;
                for (int u : under[s]) {
                    due = u == k ? s : due;
                }
                Check.due("42: " + s + " as " + k, x.taken(0, k), due);
            }
        }
        x.restore(1);
        Check.due("42: as it is now", x.taken(0, 6), -12);
        Check.due("42: as it is now", x.taken(0, 4), 5);
        x.row(1, 0, 3);
        Check.due("42: a ROW", x.taken(1, 0), -12);
        Check.due("42: nothing", x.taken(2, 0), -11);
        int[][] wrong = {{-1, 0}, {6, 0}, {0, -1}, {0, 7}, {2, 7}};
        for (int[] w : wrong) {
            Check.due("42: taken(" + w[0] + ", " + w[1] + ")", x.taken(w[0], w[1]), -1);
        }
    }

    private static void count() {
        TakenBack x = ofAllKinds();
        x.copy(0, 1);
        x.copy(1, 1);
        x.copy(1, 1);
        x.months(9);
        x.feed(4, 0);
        x.feed(1, 0);
        x.change(0, 0, 1);
        x.change(0, 0, 2);
        x.change(0, 0, 2);
        x.act(3, 3, 1);
        int[] due = {7, 4, 3, 9, 5, 2, 7};
        for (int what = 0; what < 7; what++) {
            Check.due("43: count(" + what + ")", x.count(what), due[what]);
        }
        Check.due("43: what 7", x.count(7), -1);
        Check.due("43: what -1", x.count(-1), -1);
    }
}
