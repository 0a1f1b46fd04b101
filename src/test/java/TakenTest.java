/** Promises 10 to 16: what is taken back, and what follows. */
public final class TakenTest {
    private static final int VOID = -2000000000;

    private TakenTest() {
    }

    public static void main(String[] args) {
        take();
        restore();
        with();
        falls();
        turned();
        hangs();
        hangsOnTwo();
        hangsOnTheFirstEight();
        Check.end();
    }

    private static void take() {
        TakenBack x = new TakenBack();
        x.stone(1, 5, 10);
        x.months(3);
        Check.due("10: a SLIP", x.take(0, 0, 1), 3);
        Check.due("5: of 1 tenth", x.ofStone(0, 2), 180);
        Check.due("10: a greater SLIP", x.take(0, 0, 9), 3);
        Check.due("5: of 9 tenths", x.ofStone(0, 2), 20);
        x.months(2);
        Check.due("10: a DOUBT, p any", x.take(0, 2, -4), 5);
        Check.due("5: TAKEN since, told again", x.ofStone(0, 4), 5);
        Check.due("5: WAY, told again", x.ofStone(0, 5), 2);
        Check.due("5: half", x.ofStone(0, 2), 100);
        int[][] wrong = {{0, 0, 0}, {0, 0, 10}, {0, -1, 5}, {0, 3, 5}, {1, 1, 5}, {-1, 1, 5}};
        for (int[] w : wrong) {
            Check.due("10: take(" + w[0] + ", " + w[1] + ", " + w[2] + ")", x.take(w[0], w[1], w[2]), -1);
        }
        Check.due("5: WAY, as it was", x.ofStone(0, 5), 2);
        Check.due("10: a LIE, p any", x.take(0, 1, 50), 5);
        Check.due("5: nothing", x.ofStone(0, 2), 0);
    }

    private static void restore() {
        TakenBack x = new TakenBack();
        x.stone(1, 5, 10);
        Check.due("11: not TAKEN", x.restore(0), -2);
        x.months(2);
        x.take(0, 1, 0);
        x.months(2);
        Check.due("11: TAKEN since 2", x.restore(0), 2);
        Check.due("11: no more", x.restore(0), -2);
        Check.due("5: TAKEN since", x.ofStone(0, 4), -1);
        Check.due("5: WAY", x.ofStone(0, 5), -1);
        Check.due("5: COUNTS", x.ofStone(0, 2), 200);
        Check.due("11: no stone", x.restore(1), -1);
        Check.due("11: stone -1", x.restore(-1), -1);
    }

    /** FIRSTS 0 (10, counts 200), 1 (20, 400); SUMMED 2 on both by 50; RULED 3 on 2 by 10, BAR 15. */
    private static TakenBack four() {
        TakenBack x = new TakenBack();
        x.stone(1, 10, 10);
        x.stone(1, 20, 20);
        x.stone(2, 0, 0);
        x.stone(3, 15, 199);
        x.line(2, 0, 50);
        x.line(2, 1, 50);
        x.line(3, 2, 10);
        return x;
    }

    private static void with() {
        TakenBack x = four();
        Check.due("5: COUNTS", x.ofStone(2, 2), 300);
        Check.due("6: WORTH", x.worth(2), 16666);
        Check.due("12: COUNTS with 1", x.with(1, 2, 0), 100);
        Check.due("12: WORTH with 1", x.with(1, 2, 1), 10000);
        Check.due("12: COUNTS with itself", x.with(2, 2, 0), 0);
        Check.due("12: WORTH with itself", x.with(2, 2, 1), 16666);
        Check.due("12: no WORTH with what it stands on", x.with(2, 3, 1), VOID);
        Check.due("12: of one below", x.with(2, 1, 0), 400);
        x.take(1, 0, 5);
        Check.due("5: COUNTS now", x.ofStone(2, 2), 200);
        Check.due("12: COUNTS without", x.with(1, 2, 2), 300);
        Check.due("12: WORTH without", x.with(1, 2, 3), 16666);
        Check.due("12: WORTH without one that stands", x.with(0, 2, 3), 15000);
        Check.due("12: a LIE in thought in place of a SLIP", x.with(1, 2, 0), 100);
        Check.due("12: besides all as it is", x.with(0, 2, 0), 100);
        Check.due("12: besides all as it is", x.with(0, 2, 1), 20000);
        int[][] wrong = {{4, 0, 0}, {0, 4, 0}, {-1, 0, 0}, {0, -1, 0}, {0, 0, -1}, {0, 0, 4}};
        for (int[] w : wrong) {
            Check.due("12: with(" + w[0] + ", " + w[1] + ", " + w[2] + ")", x.with(w[0], w[1], w[2]), VOID);
        }
        Check.due("5: all is as it was", x.ofStone(2, 2), 200);
    }

    private static void falls() {
        TakenBack x = four();
        Check.due("13: with 0 how many", x.falls(0, -1), 1);
        Check.due("13: with 0 itself", x.falls(0, 0), 0);
        Check.due("13: with 2 how many", x.falls(2, -1), 2);
        Check.due("13: with 2 the second", x.falls(2, 1), 3);
        Check.due("13: no third", x.falls(2, 2), -1);
        Check.due("13: i -2", x.falls(2, -2), -1);
        Check.due("13: no stone", x.falls(4, -1), -1);
        Check.due("13: stone -1", x.falls(-1, -1), -1);
        x.take(1, 1, 0);
        Check.due("13: what is 0 can't fall", x.falls(1, -1), 0);
        Check.due("13: with 0 all the rest", x.falls(0, -1), 3);
        Check.due("13: ahead is 0", x.falls(0, 0), 0);
        Check.due("13: then 2, not 1", x.falls(0, 1), 2);
        x.take(0, 0, 5);
        Check.due("13: a SLIP falls still", x.falls(0, -1), 3);
        TakenBack y = new TakenBack();
        for (int n = 0; n < 63; n++) {
            y.stone(1, 1, 1);
        }
        y.stone(3, 1, 0);
        y.line(63, 62, 99);
        Check.due("13: up to the last stone", y.falls(62, 1), 63);
        Check.due("14: up to the last stone", y.turned(62, 0), 63);
        Check.due("16: the last FIRST that it can be", y.hung(63), 1L << 62);
        Check.due("13: with the last stone", y.falls(63, 0), 63);
    }

    private static void turned() {
        TakenBack x = four();
        x.stone(3, 15, 0);
        x.line(4, 0, 50);
        x.line(4, 1, 105);
        // 100 * 10 - 20 * 20 by 120 = 5: NO; with 1: 10: NO
        Check.due("7: YES", x.says(3), 1);
        Check.due("7: NO", x.says(4), 0);
        Check.due("14: with 0 none (20)", x.turned(0, -1), 0);
        Check.due("14: with 1 (10)", x.turned(1, -1), 1);
        Check.due("14: it is 3", x.turned(1, 0), 3);
        Check.due("14: a RULED itself", x.turned(3, 0), 3);
        Check.due("14: no second", x.turned(1, 1), -1);
        Check.due("14: i -2", x.turned(1, -2), -1);
        Check.due("14: no stone", x.turned(5, -1), -1);
        Check.due("14: stone -1", x.turned(-1, -1), -1);
        x.change(0, 1, 1);
        x.stone(3, 0, 0);
        x.line(5, 2, 50);
        // 2 is (400 * 20 * .5 - 200 * 10 * .5) by 300 = 10
        Check.due("7: below 15 now", x.says(3), 0);
        Check.due("14: from NO to YES, too", x.turned(0, -1), 1);
        Check.due("14: that one", x.turned(0, 0), 3);
        Check.due("14: another one turns with 1", x.turned(1, 0), 5);
    }

    private static void hangs() {
        TakenBack x = four();
        Check.due("15: on one", x.hangs(3), 1);
        Check.due("16: that is 1", x.hung(3), 2);
        Check.due("15: of no RULED", x.hangs(2), -1);
        Check.due("16: of no RULED", x.hung(2), -1);
        Check.due("15: of no stone", x.hangs(4), -1);
        Check.due("16: of no stone", x.hung(4), -1);
        Check.due("15: of stone -1", x.hangs(-1), -1);
        x.take(1, 2, 0);
        // 200 by 20 and 200 by 10: 15 still; without 0: 20; 1 is TAKEN
        Check.due("7: at the BAR", x.says(3), 1);
        Check.due("15: none", x.hangs(3), -2);
        Check.due("16: none", x.hung(3), -2);
        x.restore(1);
        x.take(3, 1, 0);
        Check.due("15: a LIE turns no more", x.hangs(3), -2);
    }

    private static void hangsOnTwo() {
        TakenBack x = new TakenBack();
        for (int n = 0; n < 4; n++) {
            x.stone(1, 10, 10);
        }
        x.stone(1, -10, 10);
        x.stone(3, 1, 0);
        for (int n = 0; n < 5; n++) {
            x.line(5, n, 50);
        }
        // four of 10 and one of -10: each of the four that goes takes 10 of the sum
        Check.due("7: YES", x.says(5), 1);
        Check.due("15: on three", x.hangs(5), 3);
        Check.due("16: the least of like ones", x.hung(5), 7);
        x.take(0, 1, 0);
        Check.due("15: on two", x.hangs(5), 2);
        Check.due("16: 1 and 2", x.hung(5), 6);
    }

    private static void hangsOnTheFirstEight() {
        TakenBack x = new TakenBack();
        x.stone(1, 1, 1);
        for (int n = 1; n < 10; n++) {
            x.stone(1, n == 9 ? 999 : 1, 1);
        }
        x.stone(3, 2, 0);
        x.stone(3, 2, 0);
        for (int n = 1; n < 10; n++) {
            x.line(10, n, 99);
            if (n != 4) {
                x.line(11, n, 99);
            }
        }
        Check.due("7: YES by the ninth alone", x.says(10), 1);
        Check.due("15: the ninth is not asked", x.hangs(10), -2);
        Check.due("15: it is the eighth here", x.hangs(11), 1);
        Check.due("16: it", x.hung(11), 512);
        x.take(4, 1, 0);
        Check.due("16: of those that are not TAKEN", x.hung(10), 512);
    }
}
